def JX10_constant : Nat → Bool := fun t => false && Nat.beq t 0
def jnX10_constant : Nat → Bool := fun t => false && Nat.beq t 0
def hX10_constant : Nat → List Nat := fun t => []
def PX10_constant_0  (Q : Option Value → zS → Prop) (QX : zS → Prop)  (σ : zS) : Prop :=
  zCT zZM zmX10_octet [.ref 0] σ (zQi (fun r2 s1 =>
    ((r2 = (65 : Int32) →
      zCT zZM zmX10_s [.ref 0] s1 (zQi (fun r4 s3 =>
        zCT zZM zmX10_needOctet [.ref 0, .int (11 : Int32)] s3 (zQv (fun s5 =>
          Q (some (.int (σ.1 0 12))) s5)) QX)) QX) ∧ (¬ r2 = (65 : Int32) →
      ((r2 = (66 : Int32) →
        zCT zZM zmX10_l [.ref 0] s1 (zQl (fun r7 s6 =>
          zCT zZM zmX10_needOctet [.ref 0, .int (11 : Int32)] s6 (zQv (fun s8 =>
            Q (some (.int (σ.1 0 12))) s8)) QX)) QX) ∧ (¬ r2 = (66 : Int32) →
        ((r2 = (35 : Int32) →
          zCT zZM zmX10_u [.ref 0] s1 (zQl (fun r10 s9 =>
            zCT zZM zmX10_needOctet [.ref 0, .int (11 : Int32)] s9 (zQv (fun s11 =>
              Q (some (.int (σ.1 0 12))) s11)) QX)) QX) ∧ (¬ r2 = (35 : Int32) →
          zCT zZM zmX10_wrong [.ref 0, .int (1 : Int32), .int (σ.1 0 12)] s1 (zQr (fun r13 s12 =>
            o_athrow zYM 2 Q QX (fun _ _ _ _ => False) [] [.ref r13] s12)) QX)))))))) QX
def LIX10_constant  : Nat → Nat → zLo → zS → Prop := fun t n l τ => False
def JIX10_constant  (Q : Option Value → zS → Prop) (QX : zS → Prop) : Nat → Option Nat → zLo → zS → Prop := fun t n l τ => False
set_option maxRecDepth 50000 in
theorem pX10_constant_0  (Q : Option Value → zS → Prop) (QX : zS → Prop)   (σ : zS) (h : PX10_constant_0  Q QX  σ) : zwp JX10_constant (zB hX10_constant (zKt jnX10_constant (JIX10_constant  Q QX) (LIX10_constant ) none 0)) Q QX kX10_constant 0 (lv_args 0 [.ref 0]) [] σ := h
set_option maxRecDepth 50000 in
theorem rX10_constant {Q : Option Value → zS → Prop} {QX : zS → Prop}  {σ : zS}   (h0 : PX10_constant_0  Q QX  σ) : zCT zZM zmX10_constant [.ref 0] σ Q QX := by
  refine zCT_of zZM_ok pnX10 (Nat.le_of_ble_eq_true rfl) kX10_constant ksX10_constant JX10_constant 1 (fun t ht => ?_) hX10_constant jnX10_constant (JIX10_constant  Q QX) (LIX10_constant ) (fun n t ln σ' ht hj hI => ?_) (fun m t ln σ' ht hj hI => ?_) (pX10_constant_0  Q QX  σ h0)
  · cases ht
  · cases ht
  · cases ht
def JX10_exportLine : Nat → Bool := fun t => false && Nat.beq t 0
def jnX10_exportLine : Nat → Bool := fun t => false && Nat.beq t 0
def hX10_exportLine : Nat → List Nat := fun t => []
def PX10_exportLine_0  (Q : Option Value → zS → Prop) (QX : zS → Prop)  (σ : zS) : Prop :=
  (((σ.1 1 6) = (64 : Int32) →
    zCT zZM zmX10_wrong [.ref 0, .int (4 : Int32), .int (σ.1 0 12)] σ (zQr (fun r2 s1 =>
      o_athrow zYM 2 Q QX (fun _ _ _ _ => False) [] [.ref r2] s1)) QX) ∧ (¬ (σ.1 1 6) = (64 : Int32) →
    vp_in (σ.1 1 6) 64 ∧ ∀ s3 : zS, s3 = zsI σ 38 (σ.1 1 6).toNatClampNeg (σ.1 0 12) →
    zCT zZM zmX10_nameItem [.ref 0, .int (1 : Int32)] s3 (zQv (fun s4 =>
      vp_in (σ.1 1 6) 64 ∧ ∀ s5 : zS, s5 = zsI s4 36 (σ.1 1 6).toNatClampNeg (s4.1 0 14) →
      vp_in (σ.1 1 6) 64 ∧ ∀ s6 : zS, s6 = zsI s5 37 (σ.1 1 6).toNatClampNeg (s5.1 0 15) →
      zCT zZM zmX10_octet [.ref 0] s6 (zQi (fun r8 s7 =>
        vp_in (σ.1 1 6) 64 ∧ ∀ s9 : zS, s9 = zsI s7 39 (σ.1 1 6).toNatClampNeg r8 →
        vp_in (σ.1 1 6) 64 ∧
        (((s9.1 39 (σ.1 1 6).toNatClampNeg) ≤ (3 : Int32) →
          vp_in (σ.1 1 6) 64 ∧ ∀ s10 : zS, s10 = zsI s9 41 (σ.1 1 6).toNatClampNeg (s9.1 0 12) →
          zCT zZM zmX10_u [.ref 0] s10 (zQl (fun r12 s11 =>
            vp_in (σ.1 1 6) 64 ∧ ∀ s13 : zS, s13 = zsL s11 40 (σ.1 1 6).toNatClampNeg r12 →
            ∀ s14 : zS, s14 = zsI s13 1 6 ((s13.1 1 6) + (1 : Int32)) →
            Q none s14)) QX) ∧ (¬ (s9.1 39 (σ.1 1 6).toNatClampNeg) ≤ (3 : Int32) →
          zCT zZM zmX10_wrong [.ref 0, .int (1 : Int32), .int (s6.1 0 12)] s9 (zQr (fun r16 s15 =>
            o_athrow zYM 2 Q QX (fun _ _ _ _ => False) [] [.ref r16] s15)) QX)))) QX)) QX))
def LIX10_exportLine  : Nat → Nat → zLo → zS → Prop := fun t n l τ => False
def JIX10_exportLine  (Q : Option Value → zS → Prop) (QX : zS → Prop) : Nat → Option Nat → zLo → zS → Prop := fun t n l τ => False
set_option maxRecDepth 50000 in
theorem pX10_exportLine_0  (Q : Option Value → zS → Prop) (QX : zS → Prop)   (σ : zS) (h : PX10_exportLine_0  Q QX  σ) : zwp JX10_exportLine (zB hX10_exportLine (zKt jnX10_exportLine (JIX10_exportLine  Q QX) (LIX10_exportLine ) none 0)) Q QX kX10_exportLine 0 (lv_args 0 [.ref 0, .ref 1]) [] σ := h
set_option maxRecDepth 50000 in
theorem rX10_exportLine {Q : Option Value → zS → Prop} {QX : zS → Prop}  {σ : zS}   (h0 : PX10_exportLine_0  Q QX  σ) : zCT zZM zmX10_exportLine [.ref 0, .ref 1] σ Q QX := by
  refine zCT_of zZM_ok pnX10 (Nat.le_of_ble_eq_true rfl) kX10_exportLine ksX10_exportLine JX10_exportLine 1 (fun t ht => ?_) hX10_exportLine jnX10_exportLine (JIX10_exportLine  Q QX) (LIX10_exportLine ) (fun n t ln σ' ht hj hI => ?_) (fun m t ln σ' ht hj hI => ?_) (pX10_exportLine_0  Q QX  σ h0)
  · cases ht
  · cases ht
  · cases ht
def JX10_importLine : Nat → Bool := fun t => Nat.beq t 125 || Nat.beq t 207
def jnX10_importLine : Nat → Bool := fun t => Nat.beq t 125 || Nat.beq t 207
def hX10_importLine : Nat → List Nat := fun t => bif Nat.beq t 125 then [0, 1, 2, 4] else bif Nat.beq t 207 then [1, 2, 4] else []
def PX10_importLine_207  (Q : Option Value → zS → Prop) (QX : zS → Prop) (x2 : Int32) (x4 : Int32) (σ : zS) : Prop :=
  vp_in x4 4 ∧
  vp_in ((x4 * (32 : Int32)) + (σ.1 55 x4.toNatClampNeg)) 128 ∧ ∀ s1 : zS, s1 = zsI σ 56 ((x4 * (32 : Int32)) + (σ.1 55 x4.toNatClampNeg)).toNatClampNeg x2 →
  vp_in x4 4 ∧
  vp_in x4 4 ∧ ∀ s2 : zS, s2 = zsI s1 55 x4.toNatClampNeg ((s1.1 55 x4.toNatClampNeg) + (1 : Int32)) →
  ∀ s3 : zS, s3 = zsI s2 1 3 ((s2.1 1 3) + (1 : Int32)) →
  Q none s3
def PX10_importLine_125  (Q : Option Value → zS → Prop) (QX : zS → Prop) (x2 : Int32) (x4 : Int32) (σ : zS) : Prop :=
  vp_in x2 32 ∧ ∀ s1 : zS, s1 = zsI σ 26 x2.toNatClampNeg (σ.1 0 12) →
  ((x4 = 0 →
    zCT zZM zmX10_u [.ref 0] s1 (zQl (fun r3 s2 =>
      vp_in x2 32 ∧ ∀ s4 : zS, s4 = zsL s2 25 x2.toNatClampNeg r3 →
      PX10_importLine_207 Q QX x2 x4 s4)) QX) ∧ (¬ x4 = 0 →
    ((x4 = (3 : Int32) →
      zCT zZM zmX10_type [.ref 0] s1 (zQi (fun r6 s5 =>
        vp_in x2 32 ∧ ∀ s7 : zS, s7 = zsL s5 25 x2.toNatClampNeg (r6.toInt64) →
        zCT zZM zmX10_flag [.ref 0] s7 (zQi (fun r9 s8 =>
          vp_in x2 32 ∧ ∀ s10 : zS, s10 = zsI s8 28 x2.toNatClampNeg (vp_nar .boolean r9) →
          PX10_importLine_207 Q QX x2 x4 s10)) QX)) QX) ∧ (¬ x4 = (3 : Int32) →
      zCT zZM zmX10_limits [.ref 0] s1 (zQv (fun s11 =>
        vp_in x2 32 ∧ ∀ s12 : zS, s12 = zsL s11 29 x2.toNatClampNeg (s11.2 0 16) →
        vp_in x2 32 ∧ ∀ s13 : zS, s13 = zsL s12 30 x2.toNatClampNeg (s12.2 0 17) →
        PX10_importLine_207 Q QX x2 x4 s13)) QX))))
def PX10_importLine_0  (Q : Option Value → zS → Prop) (QX : zS → Prop)  (σ : zS) : Prop :=
  (((σ.1 1 3) = (32 : Int32) →
    zCT zZM zmX10_wrong [.ref 0, .int (4 : Int32), .int (σ.1 0 12)] σ (zQr (fun r2 s1 =>
      o_athrow zYM 2 Q QX (fun _ _ _ _ => False) [] [.ref r2] s1)) QX) ∧ (¬ (σ.1 1 3) = (32 : Int32) →
    vp_in (σ.1 1 3) 32 ∧ ∀ s3 : zS, s3 = zsI σ 27 (σ.1 1 3).toNatClampNeg (σ.1 0 12) →
    zCT zZM zmX10_nameItem [.ref 0, .int (1 : Int32)] s3 (zQv (fun s4 =>
      vp_in (σ.1 1 3) 32 ∧ ∀ s5 : zS, s5 = zsI s4 20 (σ.1 1 3).toNatClampNeg (s4.1 0 14) →
      vp_in (σ.1 1 3) 32 ∧ ∀ s6 : zS, s6 = zsI s5 21 (σ.1 1 3).toNatClampNeg (s5.1 0 15) →
      zCT zZM zmX10_nameItem [.ref 0, .int (1 : Int32)] s6 (zQv (fun s7 =>
        vp_in (σ.1 1 3) 32 ∧ ∀ s8 : zS, s8 = zsI s7 22 (σ.1 1 3).toNatClampNeg (s7.1 0 14) →
        vp_in (σ.1 1 3) 32 ∧ ∀ s9 : zS, s9 = zsI s8 23 (σ.1 1 3).toNatClampNeg (s8.1 0 15) →
        zCT zZM zmX10_octet [.ref 0] s9 (zQi (fun r11 s10 =>
          ((r11 ≤ (3 : Int32) →
            vp_in (σ.1 1 3) 32 ∧ ∀ s12 : zS, s12 = zsI s10 24 (σ.1 1 3).toNatClampNeg r11 →
            ((r11 = (1 : Int32) →
              zCT zZM zmX10_needOctet [.ref 0, .int (112 : Int32)] s12 (zQv (fun s13 =>
                PX10_importLine_125 Q QX (σ.1 1 3) r11 s13)) QX) ∧ (¬ r11 = (1 : Int32) →
              PX10_importLine_125 Q QX (σ.1 1 3) r11 s12))) ∧ (¬ r11 ≤ (3 : Int32) →
            zCT zZM zmX10_wrong [.ref 0, .int (1 : Int32), .int (s9.1 0 12)] s10 (zQr (fun r15 s14 =>
              o_athrow zYM 2 Q QX (fun _ _ _ _ => False) [] [.ref r15] s14)) QX)))) QX)) QX)) QX))
def LIX10_importLine  : Nat → Nat → zLo → zS → Prop := fun t n l τ => False
def JIX10_importLine  (Q : Option Value → zS → Prop) (QX : zS → Prop) : Nat → Option Nat → zLo → zS → Prop := fun t n l τ => bif Nat.beq t 125 then zdR 0 0 (zdR 1 1 (zdI 2 (fun x2 => zdI 4 (fun x4 => zdN (PX10_importLine_125  Q QX x2 x4 τ))))) l else bif Nat.beq t 207 then zdR 1 1 (zdI 2 (fun x2 => zdI 4 (fun x4 => zdN (PX10_importLine_207  Q QX x2 x4 τ)))) l else False
set_option maxRecDepth 50000 in
theorem pX10_importLine_0  (Q : Option Value → zS → Prop) (QX : zS → Prop)   (σ : zS) (h : PX10_importLine_0  Q QX  σ) : zwp JX10_importLine (zB hX10_importLine (zKt jnX10_importLine (JIX10_importLine  Q QX) (LIX10_importLine ) none 0)) Q QX kX10_importLine 0 (lv_args 0 [.ref 0, .ref 1]) [] σ := h
set_option maxRecDepth 50000 in
theorem pX10_importLine_125  (Q : Option Value → zS → Prop) (QX : zS → Prop) (n : Option Nat) (x2 : Int32) (x4 : Int32) (σ : zS) (h : PX10_importLine_125  Q QX x2 x4 σ) : zwp JX10_importLine (zB hX10_importLine (zKt jnX10_importLine (JIX10_importLine  Q QX) (LIX10_importLine ) n 125)) Q QX kX10_importLine 125 [(0, .ref 0), (1, .ref 1), (2, .int x2), (4, .int x4)] [] σ := h
set_option maxRecDepth 50000 in
theorem pX10_importLine_207  (Q : Option Value → zS → Prop) (QX : zS → Prop) (n : Option Nat) (x2 : Int32) (x4 : Int32) (σ : zS) (h : PX10_importLine_207  Q QX x2 x4 σ) : zwp JX10_importLine (zB hX10_importLine (zKt jnX10_importLine (JIX10_importLine  Q QX) (LIX10_importLine ) n 207)) Q QX kX10_importLine 207 [(1, .ref 1), (2, .int x2), (4, .int x4)] [] σ := h
set_option maxRecDepth 50000 in
theorem rX10_importLine {Q : Option Value → zS → Prop} {QX : zS → Prop}  {σ : zS}   (h0 : PX10_importLine_0  Q QX  σ) : zCT zZM zmX10_importLine [.ref 0, .ref 1] σ Q QX := by
  refine zCT_of zZM_ok pnX10 (Nat.le_of_ble_eq_true rfl) kX10_importLine ksX10_importLine JX10_importLine 208 (fun t ht => ?_) hX10_importLine jnX10_importLine (JIX10_importLine  Q QX) (LIX10_importLine ) (fun n t ln σ' ht hj hI => ?_) (fun m t ln σ' ht hj hI => ?_) (pX10_importLine_0  Q QX  σ h0)
  · refine zor ht (fun ht => ?_) (fun ht => ?_)
    · skip
      have et := Nat.eq_of_beq_eq_true ht; subst et
      exact Nat.le_of_ble_eq_true rfl
    · skip
      have et := Nat.eq_of_beq_eq_true ht; subst et
      exact Nat.le_of_ble_eq_true rfl
  · refine zor ht (fun ht => ?_) (fun ht => ?_)
    · skip
      have et := Nat.eq_of_beq_eq_true ht; subst et
      have hI : JIX10_importLine  Q QX 125 n ln σ' := hI
      obtain ⟨l0, e0, hI⟩ := zdR_e (i := 0) (q := 0) hI; subst e0
      obtain ⟨l1, e1, hI⟩ := zdR_e (i := 1) (q := 1) hI; subst e1
      obtain ⟨x2, l2, e2, hI⟩ := zdI_e (i := 2) hI; subst e2
      obtain ⟨x4, l4, e4, hI⟩ := zdI_e (i := 4) hI; subst e4
      obtain ⟨e, hI⟩ := zdN_e hI; subst e
      exact pX10_importLine_125  Q QX n x2 x4 σ' hI
    · skip
      have et := Nat.eq_of_beq_eq_true ht; subst et
      have hI : JIX10_importLine  Q QX 207 n ln σ' := hI
      obtain ⟨l1, e1, hI⟩ := zdR_e (i := 1) (q := 1) hI; subst e1
      obtain ⟨x2, l2, e2, hI⟩ := zdI_e (i := 2) hI; subst e2
      obtain ⟨x4, l4, e4, hI⟩ := zdI_e (i := 4) hI; subst e4
      obtain ⟨e, hI⟩ := zdN_e hI; subst e
      exact pX10_importLine_207  Q QX n x2 x4 σ' hI
  · refine zor ht (fun ht => ?_) (fun ht => ?_)
    · skip
      have et := Nat.eq_of_beq_eq_true ht; subst et
      cases hj
    · skip
      have et := Nat.eq_of_beq_eq_true ht; subst et
      cases hj
def JX10_locals : Nat → Bool := fun t => false && Nat.beq t 0
def jnX10_locals : Nat → Bool := fun t => false && Nat.beq t 0
def hX10_locals : Nat → List Nat := fun t => []
def PX10_locals_0  (Q : Option Value → zS → Prop) (QX : zS → Prop) (a1 : Int32) (σ : zS) : Prop :=
  zCT zZM zmX10_isOwn [.ref 0, .int a1] σ (zQi (fun r2 s1 =>
    ((r2 = 0 →
      Q (some (.int (-1 : Int32))) s1) ∧ (¬ r2 = 0 →
      vp_in a1 64 ∧
      ∀ s3 : zS, s3 = zsI s1 0 13 (s1.1 97 a1.toNatClampNeg) →
      vp_in a1 64 ∧
      vp_in ((s3.2 74 a1.toNatClampNeg).toInt32) 64 ∧
      vp_in a1 64 ∧
      zCT zZM zmX10_readLocals [.ref 0, .int (s3.1 62 ((s3.2 74 a1.toNatClampNeg).toInt32).toNatClampNeg), .int (s3.1 95 a1.toNatClampNeg)] s3 (zQv (fun s4 =>
        Q (some (.int (s4.1 0 30))) s4)) QX)))) QX
def LIX10_locals  : Nat → Nat → zLo → zS → Prop := fun t n l τ => False
def JIX10_locals  (Q : Option Value → zS → Prop) (QX : zS → Prop) : Nat → Option Nat → zLo → zS → Prop := fun t n l τ => False
set_option maxRecDepth 50000 in
theorem pX10_locals_0  (Q : Option Value → zS → Prop) (QX : zS → Prop)  (a1 : Int32) (σ : zS) (h : PX10_locals_0  Q QX a1 σ) : zwp JX10_locals (zB hX10_locals (zKt jnX10_locals (JIX10_locals  Q QX) (LIX10_locals ) none 0)) Q QX kX10_locals 0 (lv_args 0 [.ref 0, .int a1]) [] σ := h
set_option maxRecDepth 50000 in
theorem rX10_locals {Q : Option Value → zS → Prop} {QX : zS → Prop} {a1 : Int32} {σ : zS}   (h0 : PX10_locals_0  Q QX a1 σ) : zCT zZM zmX10_locals [.ref 0, .int a1] σ Q QX := by
  refine zCT_of zZM_ok pnX10 (Nat.le_of_ble_eq_true rfl) kX10_locals ksX10_locals JX10_locals 1 (fun t ht => ?_) hX10_locals jnX10_locals (JIX10_locals  Q QX) (LIX10_locals ) (fun n t ln σ' ht hj hI => ?_) (fun m t ln σ' ht hj hI => ?_) (pX10_locals_0  Q QX a1 σ h0)
  · cases ht
  · cases ht
  · cases ht
def JX10_operands : Nat → Bool := fun t => Nat.beq t 146
def jnX10_operands : Nat → Bool := fun t => false && Nat.beq t 0
def hX10_operands : Nat → List Nat := fun t => bif Nat.beq t 146 then [0, 6, 8] else []
def PX10_operands_146 (K146 : Int64 → Int32 → zS → Prop) (Q : Option Value → zS → Prop) (QX : zS → Prop) (x6 : Int64) (x8 : Int32) (σ : zS) : Prop :=
  ((x6 < (x8.toInt64) →
    Q none σ) ∧ (¬ x6 < (x8.toInt64) →
    zCT zZM zmX10_u [.ref 0] σ (zQl (fun r2 s1 =>
      K146 x6 (x8 + 1) s1)) QX))
def PX10_operands_0 (K146 : Int64 → Int32 → zS → Prop) (Q : Option Value → zS → Prop) (QX : zS → Prop) (a1 : Int32) (a2 : Int32) (σ : zS) : Prop :=
  zCT zZM zmX10_follows [.int a1] σ (zQi (fun r2 s1 =>
    ((r2 = 0 →
      Q none s1) ∧ (¬ r2 = 0 →
    ((r2 = 1 →
      zCT zZM zmX10_blockType [.ref 0] s1 (zQi (fun r4 s3 =>
        Q none s3)) QX) ∧ (¬ r2 = 1 →
    ((r2 = 2 →
      zCT zZM zmX10_u [.ref 0] s1 (zQl (fun r6 s5 =>
        Q none s5)) QX) ∧ (¬ r2 = 2 →
    ((r2 = 3 →
      zCT zZM zmX10_s [.ref 0] s1 (zQi (fun r8 s7 =>
        Q none s7)) QX) ∧ (¬ r2 = 3 →
    ((r2 = 4 →
      zCT zZM zmX10_l [.ref 0] s1 (zQl (fun r10 s9 =>
        Q none s9)) QX) ∧ (¬ r2 = 4 →
    ((r2 = 5 →
      zCT zZM zmX10_u [.ref 0] s1 (zQl (fun r12 s11 =>
        zCT zZM zmX10_u [.ref 0] s11 (zQl (fun r14 s13 =>
          Q none s13)) QX)) QX) ∧ (¬ r2 = 5 →
    ((r2 = 6 →
      zCT zZM zmX10_u [.ref 0] s1 (zQl (fun r16 s15 =>
        zCT zZM zmX10_needOctet [.ref 0, .int (0 : Int32)] s15 (zQv (fun s17 =>
          Q none s17)) QX)) QX) ∧ (¬ r2 = 6 →
    ((r2 = 7 →
      zCT zZM zmX10_needOctet [.ref 0, .int (0 : Int32)] s1 (zQv (fun s18 =>
        Q none s18)) QX) ∧ (¬ r2 = 7 →
    ((r2 = 8 →
      zCT zZM zmX10_u [.ref 0] s1 (zQl (fun r20 s19 =>
        ((r20 ≤ (256 : Int64) →
          K146 r20 (0 : Int32) s19) ∧ (¬ r20 ≤ (256 : Int64) →
          zCT zZM zmX10_wrong [.ref 0, .int (4 : Int32), .int (s1.1 0 12)] s19 (zQr (fun r22 s21 =>
            o_athrow zYM 2 Q QX (fun _ _ _ _ => False) [] [.ref r22] s21)) QX)))) QX) ∧ (¬ r2 = 8 →
    ((r2 = 9 →
      zCT zZM zmX10_many [.ref 0, .int a2] s1 (zQv (fun s23 =>
        Q none s23)) QX) ∧ (¬ r2 = 9 →
      zCT zZM zmX10_wrong [.ref 0, .int (1 : Int32), .int a2] s1 (zQr (fun r25 s24 =>
        o_athrow zYM 2 Q QX (fun _ _ _ _ => False) [] [.ref r25] s24)) QX)))))))))))))))))))))) QX
def LIX10_operands (I146 : Nat → Int64 → Int32 → zS → Prop) : Nat → Nat → zLo → zS → Prop := fun t n l τ => bif Nat.beq t 146 then zdR 0 0 (zdL 6 (fun x6 => zdI 8 (fun x8 => zdN (I146 n x6 x8 τ)))) l else False
def JIX10_operands (I146 : Nat → Int64 → Int32 → zS → Prop) (Q : Option Value → zS → Prop) (QX : zS → Prop) : Nat → Option Nat → zLo → zS → Prop := fun t n l τ => False
set_option maxRecDepth 50000 in
theorem pX10_operands_0 (I146 : Nat → Int64 → Int32 → zS → Prop) (Q : Option Value → zS → Prop) (QX : zS → Prop)  (a1 : Int32) (a2 : Int32) (σ : zS) (h : PX10_operands_0 (fun y6 y8 τ => ∃ n', zlt n' none ∧ I146 n' y6 y8 τ) Q QX a1 a2 σ) : zwp JX10_operands (zB hX10_operands (zKt jnX10_operands (JIX10_operands I146 Q QX) (LIX10_operands I146) none 0)) Q QX kX10_operands 0 (lv_args 0 [.ref 0, .int a1, .int a2]) [] σ := h
set_option maxRecDepth 50000 in
theorem pX10_operands_146 (I146 : Nat → Int64 → Int32 → zS → Prop) (Q : Option Value → zS → Prop) (QX : zS → Prop) (m : Nat) (x6 : Int64) (x8 : Int32) (σ : zS) (h : PX10_operands_146 (fun y6 y8 τ => ∃ n', zlt n' (some m) ∧ I146 n' y6 y8 τ) Q QX x6 x8 σ) : zwp JX10_operands (zB hX10_operands (zKt jnX10_operands (JIX10_operands I146 Q QX) (LIX10_operands I146) (some m) 146)) Q QX kX10_operands 146 [(0, .ref 0), (6, .long x6), (8, .int x8)] [] σ := h
set_option maxRecDepth 50000 in
theorem rX10_operands {Q : Option Value → zS → Prop} {QX : zS → Prop} {a1 : Int32} {a2 : Int32} {σ : zS} (I146 : Nat → Int64 → Int32 → zS → Prop) (hs146 : ∀ (m : Nat) (x6 : Int64) (x8 : Int32) (σ : zS), I146 m x6 x8 σ → PX10_operands_146 (fun y6 y8 τ => ∃ n', zlt n' (some m) ∧ I146 n' y6 y8 τ) Q QX x6 x8 σ) (h0 : PX10_operands_0 (fun y6 y8 τ => ∃ n', zlt n' none ∧ I146 n' y6 y8 τ) Q QX a1 a2 σ) : zCT zZM zmX10_operands [.ref 0, .int a1, .int a2] σ Q QX := by
  refine zCT_of zZM_ok pnX10 (Nat.le_of_ble_eq_true rfl) kX10_operands ksX10_operands JX10_operands 147 (fun t ht => ?_) hX10_operands jnX10_operands (JIX10_operands I146 Q QX) (LIX10_operands I146) (fun n t ln σ' ht hj hI => ?_) (fun m t ln σ' ht hj hI => ?_) (pX10_operands_0 I146 Q QX a1 a2 σ h0)
  · have et := Nat.eq_of_beq_eq_true ht; subst et
    exact Nat.le_of_ble_eq_true rfl
  · have et := Nat.eq_of_beq_eq_true ht; subst et
    cases hj
  · have et := Nat.eq_of_beq_eq_true ht; subst et
    have hI : LIX10_operands I146 146 m ln σ' := hI
    obtain ⟨l0, e0, hI⟩ := zdR_e (i := 0) (q := 0) hI; subst e0
    obtain ⟨x6, l6, e6, hI⟩ := zdL_e (i := 6) hI; subst e6
    obtain ⟨x8, l8, e8, hI⟩ := zdI_e (i := 8) hI; subst e8
    obtain ⟨e, hI⟩ := zdN_e hI; subst e
    exact pX10_operands_146 I146 Q QX m x6 x8 σ' (hs146 m x6 x8 σ' hI)
def JX10_ownLimits : Nat → Bool := fun t => Nat.beq t 21 || Nat.beq t 90 || Nat.beq t 104
def jnX10_ownLimits : Nat → Bool := fun t => Nat.beq t 21 || Nat.beq t 90 || Nat.beq t 104
def hX10_ownLimits : Nat → List Nat := fun t => bif Nat.beq t 21 then [0, 1, 2, 3, 4] else bif Nat.beq t 90 then [1, 2, 3, 4, 6] else bif Nat.beq t 104 then [1, 2] else []
def PX10_ownLimits_104  (Q : Option Value → zS → Prop) (QX : zS → Prop) (x2 : Int32) (σ : zS) : Prop :=
  ((x2 = (1 : Int32) →
    ∀ s1 : zS, s1 = zsI σ 1 12 ((σ.1 1 12) + (1 : Int32)) →
    Q none s1) ∧ (¬ x2 = (1 : Int32) →
    ∀ s2 : zS, s2 = zsI σ 1 13 ((σ.1 1 13) + (1 : Int32)) →
    Q none s2))
def PX10_ownLimits_90  (Q : Option Value → zS → Prop) (QX : zS → Prop) (x2 : Int32) (x3 : Int32) (x4 : Int32) (x6 : Int32) (σ : zS) : Prop :=
  ((x6 = (1 : Int32) →
    vp_in x3 2 ∧ ∀ s1 : zS, s1 = zsI σ 17 x3.toNatClampNeg x4 →
    PX10_ownLimits_104 Q QX x2 s1) ∧ (¬ x6 = (1 : Int32) →
    PX10_ownLimits_104 Q QX x2 σ))
def PX10_ownLimits_21  (Q : Option Value → zS → Prop) (QX : zS → Prop) (x2 : Int32) (x3 : Int32) (x4 : Int32) (σ : zS) : Prop :=
  zCT zZM zmX10_limits [.ref 0] σ (zQv (fun s1 =>
    ((x2 = (1 : Int32) →
      (((s1.1 1 12) = 0 →
        vp_in x3 2 ∧ ∀ s2 : zS, s2 = zsL s1 14 x3.toNatClampNeg (s1.2 0 16) →
        vp_in x3 2 ∧ ∀ s3 : zS, s3 = zsL s2 15 x3.toNatClampNeg (s2.2 0 17) →
        vp_in x3 2 ∧ ∀ s4 : zS, s4 = zsI s3 16 x3.toNatClampNeg (σ.1 0 12) →
        vp_in x3 2 ∧ ∀ s5 : zS, s5 = zsI s4 18 x3.toNatClampNeg x4 →
        PX10_ownLimits_90 Q QX x2 x3 x4 (s1.1 1 12) s5) ∧ (¬ (s1.1 1 12) = 0 →
        PX10_ownLimits_90 Q QX x2 x3 x4 (s1.1 1 12) s1))) ∧ (¬ x2 = (1 : Int32) →
      (((s1.1 1 13) = 0 →
        vp_in x3 2 ∧ ∀ s6 : zS, s6 = zsL s1 14 x3.toNatClampNeg (s1.2 0 16) →
        vp_in x3 2 ∧ ∀ s7 : zS, s7 = zsL s6 15 x3.toNatClampNeg (s6.2 0 17) →
        vp_in x3 2 ∧ ∀ s8 : zS, s8 = zsI s7 16 x3.toNatClampNeg (σ.1 0 12) →
        vp_in x3 2 ∧ ∀ s9 : zS, s9 = zsI s8 18 x3.toNatClampNeg x4 →
        PX10_ownLimits_90 Q QX x2 x3 x4 (s1.1 1 13) s9) ∧ (¬ (s1.1 1 13) = 0 →
        PX10_ownLimits_90 Q QX x2 x3 x4 (s1.1 1 13) s1)))))) QX
def PX10_ownLimits_0  (Q : Option Value → zS → Prop) (QX : zS → Prop) (a1 : Int32) (σ : zS) : Prop :=
  ((a1 = (1 : Int32) →
    zCT zZM zmX10_needOctet [.ref 0, .int (112 : Int32)] σ (zQv (fun s1 =>
      PX10_ownLimits_21 Q QX a1 (a1 - (1 : Int32)) (σ.1 0 12) s1)) QX) ∧ (¬ a1 = (1 : Int32) →
    PX10_ownLimits_21 Q QX a1 (a1 - (1 : Int32)) (σ.1 0 12) σ))
def LIX10_ownLimits  : Nat → Nat → zLo → zS → Prop := fun t n l τ => False
def JIX10_ownLimits  (Q : Option Value → zS → Prop) (QX : zS → Prop) : Nat → Option Nat → zLo → zS → Prop := fun t n l τ => bif Nat.beq t 21 then zdR 0 0 (zdR 1 1 (zdI 2 (fun x2 => zdI 3 (fun x3 => zdI 4 (fun x4 => zdN (PX10_ownLimits_21  Q QX x2 x3 x4 τ)))))) l else bif Nat.beq t 90 then zdR 1 1 (zdI 2 (fun x2 => zdI 3 (fun x3 => zdI 4 (fun x4 => zdI 6 (fun x6 => zdN (PX10_ownLimits_90  Q QX x2 x3 x4 x6 τ)))))) l else bif Nat.beq t 104 then zdR 1 1 (zdI 2 (fun x2 => zdN (PX10_ownLimits_104  Q QX x2 τ))) l else False
set_option maxRecDepth 50000 in
theorem pX10_ownLimits_0  (Q : Option Value → zS → Prop) (QX : zS → Prop)  (a1 : Int32) (σ : zS) (h : PX10_ownLimits_0  Q QX a1 σ) : zwp JX10_ownLimits (zB hX10_ownLimits (zKt jnX10_ownLimits (JIX10_ownLimits  Q QX) (LIX10_ownLimits ) none 0)) Q QX kX10_ownLimits 0 (lv_args 0 [.ref 0, .ref 1, .int a1]) [] σ := h
set_option maxRecDepth 50000 in
theorem pX10_ownLimits_21  (Q : Option Value → zS → Prop) (QX : zS → Prop) (n : Option Nat) (x2 : Int32) (x3 : Int32) (x4 : Int32) (σ : zS) (h : PX10_ownLimits_21  Q QX x2 x3 x4 σ) : zwp JX10_ownLimits (zB hX10_ownLimits (zKt jnX10_ownLimits (JIX10_ownLimits  Q QX) (LIX10_ownLimits ) n 21)) Q QX kX10_ownLimits 21 [(0, .ref 0), (1, .ref 1), (2, .int x2), (3, .int x3), (4, .int x4)] [] σ := h
set_option maxRecDepth 50000 in
theorem pX10_ownLimits_90  (Q : Option Value → zS → Prop) (QX : zS → Prop) (n : Option Nat) (x2 : Int32) (x3 : Int32) (x4 : Int32) (x6 : Int32) (σ : zS) (h : PX10_ownLimits_90  Q QX x2 x3 x4 x6 σ) : zwp JX10_ownLimits (zB hX10_ownLimits (zKt jnX10_ownLimits (JIX10_ownLimits  Q QX) (LIX10_ownLimits ) n 90)) Q QX kX10_ownLimits 90 [(1, .ref 1), (2, .int x2), (3, .int x3), (4, .int x4), (6, .int x6)] [] σ := h
set_option maxRecDepth 50000 in
theorem pX10_ownLimits_104  (Q : Option Value → zS → Prop) (QX : zS → Prop) (n : Option Nat) (x2 : Int32) (σ : zS) (h : PX10_ownLimits_104  Q QX x2 σ) : zwp JX10_ownLimits (zB hX10_ownLimits (zKt jnX10_ownLimits (JIX10_ownLimits  Q QX) (LIX10_ownLimits ) n 104)) Q QX kX10_ownLimits 104 [(1, .ref 1), (2, .int x2)] [] σ := h
set_option maxRecDepth 50000 in
theorem rX10_ownLimits {Q : Option Value → zS → Prop} {QX : zS → Prop} {a1 : Int32} {σ : zS}   (h0 : PX10_ownLimits_0  Q QX a1 σ) : zCT zZM zmX10_ownLimits [.ref 0, .ref 1, .int a1] σ Q QX := by
  refine zCT_of zZM_ok pnX10 (Nat.le_of_ble_eq_true rfl) kX10_ownLimits ksX10_ownLimits JX10_ownLimits 105 (fun t ht => ?_) hX10_ownLimits jnX10_ownLimits (JIX10_ownLimits  Q QX) (LIX10_ownLimits ) (fun n t ln σ' ht hj hI => ?_) (fun m t ln σ' ht hj hI => ?_) (pX10_ownLimits_0  Q QX a1 σ h0)
  · refine zor ht (fun ht => ?_) (fun ht => ?_)
    · skip
      refine zor ht (fun ht => ?_) (fun ht => ?_)
      · skip
        have et := Nat.eq_of_beq_eq_true ht; subst et
        exact Nat.le_of_ble_eq_true rfl
      · skip
        have et := Nat.eq_of_beq_eq_true ht; subst et
        exact Nat.le_of_ble_eq_true rfl
    · skip
      have et := Nat.eq_of_beq_eq_true ht; subst et
      exact Nat.le_of_ble_eq_true rfl
  · refine zor ht (fun ht => ?_) (fun ht => ?_)
    · skip
      refine zor ht (fun ht => ?_) (fun ht => ?_)
      · skip
        have et := Nat.eq_of_beq_eq_true ht; subst et
        have hI : JIX10_ownLimits  Q QX 21 n ln σ' := hI
        obtain ⟨l0, e0, hI⟩ := zdR_e (i := 0) (q := 0) hI; subst e0
        obtain ⟨l1, e1, hI⟩ := zdR_e (i := 1) (q := 1) hI; subst e1
        obtain ⟨x2, l2, e2, hI⟩ := zdI_e (i := 2) hI; subst e2
        obtain ⟨x3, l3, e3, hI⟩ := zdI_e (i := 3) hI; subst e3
        obtain ⟨x4, l4, e4, hI⟩ := zdI_e (i := 4) hI; subst e4
        obtain ⟨e, hI⟩ := zdN_e hI; subst e
        exact pX10_ownLimits_21  Q QX n x2 x3 x4 σ' hI
      · skip
        have et := Nat.eq_of_beq_eq_true ht; subst et
        have hI : JIX10_ownLimits  Q QX 90 n ln σ' := hI
        obtain ⟨l1, e1, hI⟩ := zdR_e (i := 1) (q := 1) hI; subst e1
        obtain ⟨x2, l2, e2, hI⟩ := zdI_e (i := 2) hI; subst e2
        obtain ⟨x3, l3, e3, hI⟩ := zdI_e (i := 3) hI; subst e3
        obtain ⟨x4, l4, e4, hI⟩ := zdI_e (i := 4) hI; subst e4
        obtain ⟨x6, l6, e6, hI⟩ := zdI_e (i := 6) hI; subst e6
        obtain ⟨e, hI⟩ := zdN_e hI; subst e
        exact pX10_ownLimits_90  Q QX n x2 x3 x4 x6 σ' hI
    · skip
      have et := Nat.eq_of_beq_eq_true ht; subst et
      have hI : JIX10_ownLimits  Q QX 104 n ln σ' := hI
      obtain ⟨l1, e1, hI⟩ := zdR_e (i := 1) (q := 1) hI; subst e1
      obtain ⟨x2, l2, e2, hI⟩ := zdI_e (i := 2) hI; subst e2
      obtain ⟨e, hI⟩ := zdN_e hI; subst e
      exact pX10_ownLimits_104  Q QX n x2 σ' hI
  · refine zor ht (fun ht => ?_) (fun ht => ?_)
    · skip
      refine zor ht (fun ht => ?_) (fun ht => ?_)
      · skip
        have et := Nat.eq_of_beq_eq_true ht; subst et
        cases hj
      · skip
        have et := Nat.eq_of_beq_eq_true ht; subst et
        cases hj
    · skip
      have et := Nat.eq_of_beq_eq_true ht; subst et
      cases hj
def JX10_checkBody : Nat → Bool := fun t => Nat.beq t 57
def jnX10_checkBody : Nat → Bool := fun t => false && Nat.beq t 0
def hX10_checkBody : Nat → List Nat := fun t => bif Nat.beq t 57 then [0, 1, 3] else []
def PX10_checkBody_57 (K57 : Int32 → zS → Prop) (Q : Option Value → zS → Prop) (QX : zS → Prop) (x3 : Int32) (σ : zS) : Prop :=
  (((σ.1 0 28) ≤ 0 →
    Q none σ) ∧ (¬ (σ.1 0 28) ≤ 0 →
    ((1 : Int32) = 0 ∨ (1 : Int32) = 1) ∧ ∀ s1 : zS, s1 = zsI σ 0 31 (1 : Int32) →
    zCT zZM zmX10_octet [.ref 0] s1 (zQi (fun r3 s2 =>
      ((r3 = (252 : Int32) →
        zCT zZM zmX10_checkMany [.ref 0, .ref 1] s2 (zQv (fun s4 =>
          zCT zZM zmX10_must [.ref 0, .int (s4.1 0 31), .int (σ.1 0 12)] s4 (zQv (fun s5 =>
            K57 x3 s5)) QX)) QX) ∧ (¬ r3 = (252 : Int32) →
        zCT zZM zmX10_checkOne [.ref 0, .ref 1, .int r3, .int x3] s2 (zQv (fun s6 =>
          zCT zZM zmX10_must [.ref 0, .int (s6.1 0 31), .int (σ.1 0 12)] s6 (zQv (fun s7 =>
            K57 x3 s7)) QX)) QX)))) QX))
def PX10_checkBody_0 (K57 : Int32 → zS → Prop) (Q : Option Value → zS → Prop) (QX : zS → Prop) (a1 : Int32) (σ : zS) : Prop :=
  vp_in a1 64 ∧
  vp_in ((σ.2 31 a1.toNatClampNeg).toInt32) 64 ∧
  vp_in a1 64 ∧
  ∀ s1 : zS, s1 = zsI σ 0 13 (σ.1 54 a1.toNatClampNeg) →
  vp_in a1 64 ∧
  zCT zZM zmX10_readLocals [.ref 0, .int (σ.1 19 ((σ.2 31 a1.toNatClampNeg).toInt32).toNatClampNeg), .int (s1.1 52 a1.toNatClampNeg)] s1 (zQv (fun s2 =>
    ∀ s3 : zS, s3 = zsI s2 0 22 (0 : Int32) →
    ∀ s4 : zS, s4 = zsI s3 0 28 (0 : Int32) →
    zCT zZM zmX10_resultOf [.int (σ.1 19 ((σ.2 31 a1.toNatClampNeg).toInt32).toNatClampNeg)] s4 (zQi (fun r6 s5 =>
      zCT zZM zmX10_resultOf [.int (σ.1 19 ((σ.2 31 a1.toNatClampNeg).toInt32).toNatClampNeg)] s5 (zQi (fun r8 s7 =>
        zCT zZM zmX10_openFrame [.ref 0, .int (0 : Int32), .int r6, .int r8] s7 (zQv (fun s9 =>
          K57 (σ.1 19 ((σ.2 31 a1.toNatClampNeg).toInt32).toNatClampNeg) s9)) QX)) QX)) QX)) QX
def LIX10_checkBody (I57 : Nat → Int32 → zS → Prop) : Nat → Nat → zLo → zS → Prop := fun t n l τ => bif Nat.beq t 57 then zdR 0 0 (zdR 1 1 (zdI 3 (fun x3 => zdN (I57 n x3 τ)))) l else False
def JIX10_checkBody (I57 : Nat → Int32 → zS → Prop) (Q : Option Value → zS → Prop) (QX : zS → Prop) : Nat → Option Nat → zLo → zS → Prop := fun t n l τ => False
set_option maxRecDepth 50000 in
theorem pX10_checkBody_0 (I57 : Nat → Int32 → zS → Prop) (Q : Option Value → zS → Prop) (QX : zS → Prop)  (a1 : Int32) (σ : zS) (h : PX10_checkBody_0 (fun y3 τ => ∃ n', zlt n' none ∧ I57 n' y3 τ) Q QX a1 σ) : zwp JX10_checkBody (zB hX10_checkBody (zKt jnX10_checkBody (JIX10_checkBody I57 Q QX) (LIX10_checkBody I57) none 0)) Q QX kX10_checkBody 0 (lv_args 0 [.ref 0, .ref 1, .int a1]) [] σ := h
set_option maxRecDepth 50000 in
theorem pX10_checkBody_57 (I57 : Nat → Int32 → zS → Prop) (Q : Option Value → zS → Prop) (QX : zS → Prop) (m : Nat) (x3 : Int32) (σ : zS) (h : PX10_checkBody_57 (fun y3 τ => ∃ n', zlt n' (some m) ∧ I57 n' y3 τ) Q QX x3 σ) : zwp JX10_checkBody (zB hX10_checkBody (zKt jnX10_checkBody (JIX10_checkBody I57 Q QX) (LIX10_checkBody I57) (some m) 57)) Q QX kX10_checkBody 57 [(0, .ref 0), (1, .ref 1), (3, .int x3)] [] σ := h
set_option maxRecDepth 50000 in
theorem rX10_checkBody {Q : Option Value → zS → Prop} {QX : zS → Prop} {a1 : Int32} {σ : zS} (I57 : Nat → Int32 → zS → Prop) (hs57 : ∀ (m : Nat) (x3 : Int32) (σ : zS), I57 m x3 σ → PX10_checkBody_57 (fun y3 τ => ∃ n', zlt n' (some m) ∧ I57 n' y3 τ) Q QX x3 σ) (h0 : PX10_checkBody_0 (fun y3 τ => ∃ n', zlt n' none ∧ I57 n' y3 τ) Q QX a1 σ) : zCT zZM zmX10_checkBody [.ref 0, .ref 1, .int a1] σ Q QX := by
  refine zCT_of zZM_ok pnX10 (Nat.le_of_ble_eq_true rfl) kX10_checkBody ksX10_checkBody JX10_checkBody 58 (fun t ht => ?_) hX10_checkBody jnX10_checkBody (JIX10_checkBody I57 Q QX) (LIX10_checkBody I57) (fun n t ln σ' ht hj hI => ?_) (fun m t ln σ' ht hj hI => ?_) (pX10_checkBody_0 I57 Q QX a1 σ h0)
  · have et := Nat.eq_of_beq_eq_true ht; subst et
    exact Nat.le_of_ble_eq_true rfl
  · have et := Nat.eq_of_beq_eq_true ht; subst et
    cases hj
  · have et := Nat.eq_of_beq_eq_true ht; subst et
    have hI : LIX10_checkBody I57 57 m ln σ' := hI
    obtain ⟨l0, e0, hI⟩ := zdR_e (i := 0) (q := 0) hI; subst e0
    obtain ⟨l1, e1, hI⟩ := zdR_e (i := 1) (q := 1) hI; subst e1
    obtain ⟨x3, l3, e3, hI⟩ := zdI_e (i := 3) hI; subst e3
    obtain ⟨e, hI⟩ := zdN_e hI; subst e
    exact pX10_checkBody_57 I57 Q QX m x3 σ' (hs57 m x3 σ' hI)
def JX10_dataLine : Nat → Bool := fun t => false && Nat.beq t 0
def jnX10_dataLine : Nat → Bool := fun t => false && Nat.beq t 0
def hX10_dataLine : Nat → List Nat := fun t => []
def PX10_dataLine_0  (Q : Option Value → zS → Prop) (QX : zS → Prop)  (σ : zS) : Prop :=
  (((σ.1 1 8) = (32 : Int32) →
    zCT zZM zmX10_wrong [.ref 0, .int (4 : Int32), .int (σ.1 0 12)] σ (zQr (fun r2 s1 =>
      o_athrow zYM 2 Q QX (fun _ _ _ _ => False) [] [.ref r2] s1)) QX) ∧ (¬ (σ.1 1 8) = (32 : Int32) →
    vp_in (σ.1 1 8) 32 ∧ ∀ s3 : zS, s3 = zsI σ 48 (σ.1 1 8).toNatClampNeg (σ.1 0 12) →
    zCT zZM zmX10_octet [.ref 0] s3 (zQi (fun r5 s4 =>
      ((r5 ≤ (1 : Int32) →
        vp_in (σ.1 1 8) 32 ∧ ∀ s6 : zS, s6 = zsI s4 47 (σ.1 1 8).toNatClampNeg r5 →
        ((r5 = 0 →
          zCT zZM zmX10_constant [.ref 0] s6 (zQi (fun r8 s7 =>
            vp_in (σ.1 1 8) 32 ∧ ∀ s9 : zS, s9 = zsI s7 49 (σ.1 1 8).toNatClampNeg r8 →
            zCT zZM zmX10_u [.ref 0] s9 (zQl (fun r11 s10 =>
              ((r11 ≤ (((s10.1 0 13) - (s10.1 0 12)).toInt64) →
                vp_in (σ.1 1 8) 32 ∧ ∀ s12 : zS, s12 = zsI s10 50 (σ.1 1 8).toNatClampNeg (s10.1 0 12) →
                vp_in (σ.1 1 8) 32 ∧ ∀ s13 : zS, s13 = zsI s12 51 (σ.1 1 8).toNatClampNeg (r11.toInt32) →
                ∀ s14 : zS, s14 = zsI s13 0 12 ((s13.1 0 12) + (r11.toInt32)) →
                ∀ s15 : zS, s15 = zsI s14 1 8 ((s14.1 1 8) + (1 : Int32)) →
                Q none s15) ∧ (¬ r11 ≤ (((s10.1 0 13) - (s10.1 0 12)).toInt64) →
                zCT zZM zmX10_wrong [.ref 0, .int (1 : Int32), .int (s9.1 0 12)] s10 (zQr (fun r17 s16 =>
                  o_athrow zYM 2 Q QX (fun _ _ _ _ => False) [] [.ref r17] s16)) QX)))) QX)) QX) ∧ (¬ r5 = 0 →
          zCT zZM zmX10_u [.ref 0] s6 (zQl (fun r19 s18 =>
            ((r19 ≤ (((s18.1 0 13) - (s18.1 0 12)).toInt64) →
              vp_in (σ.1 1 8) 32 ∧ ∀ s20 : zS, s20 = zsI s18 50 (σ.1 1 8).toNatClampNeg (s18.1 0 12) →
              vp_in (σ.1 1 8) 32 ∧ ∀ s21 : zS, s21 = zsI s20 51 (σ.1 1 8).toNatClampNeg (r19.toInt32) →
              ∀ s22 : zS, s22 = zsI s21 0 12 ((s21.1 0 12) + (r19.toInt32)) →
              ∀ s23 : zS, s23 = zsI s22 1 8 ((s22.1 1 8) + (1 : Int32)) →
              Q none s23) ∧ (¬ r19 ≤ (((s18.1 0 13) - (s18.1 0 12)).toInt64) →
              zCT zZM zmX10_wrong [.ref 0, .int (1 : Int32), .int (s6.1 0 12)] s18 (zQr (fun r25 s24 =>
                o_athrow zYM 2 Q QX (fun _ _ _ _ => False) [] [.ref r25] s24)) QX)))) QX))) ∧ (¬ r5 ≤ (1 : Int32) →
        vp_in (σ.1 1 8) 32 ∧
        zCT zZM zmX10_wrong [.ref 0, .int (1 : Int32), .int (s4.1 48 (σ.1 1 8).toNatClampNeg)] s4 (zQr (fun r27 s26 =>
          o_athrow zYM 2 Q QX (fun _ _ _ _ => False) [] [.ref r27] s26)) QX)))) QX))
def LIX10_dataLine  : Nat → Nat → zLo → zS → Prop := fun t n l τ => False
def JIX10_dataLine  (Q : Option Value → zS → Prop) (QX : zS → Prop) : Nat → Option Nat → zLo → zS → Prop := fun t n l τ => False
set_option maxRecDepth 50000 in
theorem pX10_dataLine_0  (Q : Option Value → zS → Prop) (QX : zS → Prop)   (σ : zS) (h : PX10_dataLine_0  Q QX  σ) : zwp JX10_dataLine (zB hX10_dataLine (zKt jnX10_dataLine (JIX10_dataLine  Q QX) (LIX10_dataLine ) none 0)) Q QX kX10_dataLine 0 (lv_args 0 [.ref 0, .ref 1]) [] σ := h
set_option maxRecDepth 50000 in
theorem rX10_dataLine {Q : Option Value → zS → Prop} {QX : zS → Prop}  {σ : zS}   (h0 : PX10_dataLine_0  Q QX  σ) : zCT zZM zmX10_dataLine [.ref 0, .ref 1] σ Q QX := by
  refine zCT_of zZM_ok pnX10 (Nat.le_of_ble_eq_true rfl) kX10_dataLine ksX10_dataLine JX10_dataLine 1 (fun t ht => ?_) hX10_dataLine jnX10_dataLine (JIX10_dataLine  Q QX) (LIX10_dataLine ) (fun n t ln σ' ht hj hI => ?_) (fun m t ln σ' ht hj hI => ?_) (pX10_dataLine_0  Q QX  σ h0)
  · cases ht
  · cases ht
  · cases ht
def JX10_elementLine : Nat → Bool := fun t => Nat.beq t 62 || Nat.beq t 91 || Nat.beq t 142
def jnX10_elementLine : Nat → Bool := fun t => Nat.beq t 62 || Nat.beq t 91
def hX10_elementLine : Nat → List Nat := fun t => bif Nat.beq t 62 then [0, 1, 2, 3] else bif Nat.beq t 91 then [0, 1, 2] else bif Nat.beq t 142 then [0, 1, 5, 7] else []
def PX10_elementLine_142 (K142 : Int64 → Int32 → zS → Prop) (Q : Option Value → zS → Prop) (QX : zS → Prop) (x5 : Int64) (x7 : Int32) (σ : zS) : Prop :=
  ((x5 ≤ (x7.toInt64) →
    ∀ s1 : zS, s1 = zsI σ 1 7 ((σ.1 1 7) + (1 : Int32)) →
    Q none s1) ∧ (¬ x5 ≤ (x7.toInt64) →
    zCT zZM zmX10_u [.ref 0] σ (zQl (fun r3 s2 =>
      K142 x5 (x7 + 1) s2)) QX))
def PX10_elementLine_91 (K142 : Int64 → Int32 → zS → Prop) (Q : Option Value → zS → Prop) (QX : zS → Prop) (x2 : Int32) (σ : zS) : Prop :=
  zCT zZM zmX10_u [.ref 0] σ (zQl (fun r2 s1 =>
    ((r2 ≤ (256 : Int64) →
      vp_in x2 32 ∧ ∀ s3 : zS, s3 = zsI s1 45 x2.toNatClampNeg (s1.1 0 12) →
      vp_in x2 32 ∧ ∀ s4 : zS, s4 = zsI s3 46 x2.toNatClampNeg (r2.toInt32) →
      K142 r2 (0 : Int32) s4) ∧ (¬ r2 ≤ (256 : Int64) →
      zCT zZM zmX10_wrong [.ref 0, .int (4 : Int32), .int (σ.1 0 12)] s1 (zQr (fun r6 s5 =>
        o_athrow zYM 2 Q QX (fun _ _ _ _ => False) [] [.ref r6] s5)) QX)))) QX
def PX10_elementLine_62 (K142 : Int64 → Int32 → zS → Prop) (Q : Option Value → zS → Prop) (QX : zS → Prop) (x2 : Int32) (x3 : Int32) (σ : zS) : Prop :=
  vp_in x2 32 ∧ ∀ s1 : zS, s1 = zsI σ 42 x2.toNatClampNeg x3 →
  ((x3 = 0 →
    zCT zZM zmX10_constant [.ref 0] s1 (zQi (fun r3 s2 =>
      vp_in x2 32 ∧ ∀ s4 : zS, s4 = zsI s2 44 x2.toNatClampNeg r3 →
      PX10_elementLine_91 K142 Q QX x2 s4)) QX) ∧ (¬ x3 = 0 →
    zCT zZM zmX10_needOctet [.ref 0, .int (0 : Int32)] s1 (zQv (fun s5 =>
      PX10_elementLine_91 K142 Q QX x2 s5)) QX))
def PX10_elementLine_0 (K142 : Int64 → Int32 → zS → Prop) (Q : Option Value → zS → Prop) (QX : zS → Prop)  (σ : zS) : Prop :=
  (((σ.1 1 7) = (32 : Int32) →
    zCT zZM zmX10_wrong [.ref 0, .int (4 : Int32), .int (σ.1 0 12)] σ (zQr (fun r2 s1 =>
      o_athrow zYM 2 Q QX (fun _ _ _ _ => False) [] [.ref r2] s1)) QX) ∧ (¬ (σ.1 1 7) = (32 : Int32) →
    vp_in (σ.1 1 7) 32 ∧ ∀ s3 : zS, s3 = zsI σ 43 (σ.1 1 7).toNatClampNeg (σ.1 0 12) →
    zCT zZM zmX10_octet [.ref 0] s3 (zQi (fun r5 s4 =>
      ((r5 = 0 →
        PX10_elementLine_62 K142 Q QX (σ.1 1 7) r5 s4) ∧ (¬ r5 = 0 →
        ((r5 = (1 : Int32) →
          PX10_elementLine_62 K142 Q QX (σ.1 1 7) r5 s4) ∧ (¬ r5 = (1 : Int32) →
          ((r5 = (3 : Int32) →
            PX10_elementLine_62 K142 Q QX (σ.1 1 7) r5 s4) ∧ (¬ r5 = (3 : Int32) →
            vp_in (σ.1 1 7) 32 ∧
            zCT zZM zmX10_wrong [.ref 0, .int (1 : Int32), .int (s4.1 43 (σ.1 1 7).toNatClampNeg)] s4 (zQr (fun r7 s6 =>
              o_athrow zYM 2 Q QX (fun _ _ _ _ => False) [] [.ref r7] s6)) QX)))))))) QX))
def LIX10_elementLine (I142 : Nat → Int64 → Int32 → zS → Prop) : Nat → Nat → zLo → zS → Prop := fun t n l τ => bif Nat.beq t 142 then zdR 0 0 (zdR 1 1 (zdL 5 (fun x5 => zdI 7 (fun x7 => zdN (I142 n x5 x7 τ))))) l else False
def JIX10_elementLine (I142 : Nat → Int64 → Int32 → zS → Prop) (Q : Option Value → zS → Prop) (QX : zS → Prop) : Nat → Option Nat → zLo → zS → Prop := fun t n l τ => bif Nat.beq t 62 then zdR 0 0 (zdR 1 1 (zdI 2 (fun x2 => zdI 3 (fun x3 => zdN (PX10_elementLine_62 (fun y5 y7 τ => ∃ n', zlt n' n ∧ I142 n' y5 y7 τ) Q QX x2 x3 τ))))) l else bif Nat.beq t 91 then zdR 0 0 (zdR 1 1 (zdI 2 (fun x2 => zdN (PX10_elementLine_91 (fun y5 y7 τ => ∃ n', zlt n' n ∧ I142 n' y5 y7 τ) Q QX x2 τ)))) l else False
set_option maxRecDepth 50000 in
theorem pX10_elementLine_0 (I142 : Nat → Int64 → Int32 → zS → Prop) (Q : Option Value → zS → Prop) (QX : zS → Prop)   (σ : zS) (h : PX10_elementLine_0 (fun y5 y7 τ => ∃ n', zlt n' none ∧ I142 n' y5 y7 τ) Q QX  σ) : zwp JX10_elementLine (zB hX10_elementLine (zKt jnX10_elementLine (JIX10_elementLine I142 Q QX) (LIX10_elementLine I142) none 0)) Q QX kX10_elementLine 0 (lv_args 0 [.ref 0, .ref 1]) [] σ := h
set_option maxRecDepth 50000 in
theorem pX10_elementLine_62 (I142 : Nat → Int64 → Int32 → zS → Prop) (Q : Option Value → zS → Prop) (QX : zS → Prop) (n : Option Nat) (x2 : Int32) (x3 : Int32) (σ : zS) (h : PX10_elementLine_62 (fun y5 y7 τ => ∃ n', zlt n' n ∧ I142 n' y5 y7 τ) Q QX x2 x3 σ) : zwp JX10_elementLine (zB hX10_elementLine (zKt jnX10_elementLine (JIX10_elementLine I142 Q QX) (LIX10_elementLine I142) n 62)) Q QX kX10_elementLine 62 [(0, .ref 0), (1, .ref 1), (2, .int x2), (3, .int x3)] [] σ := h
set_option maxRecDepth 50000 in
theorem pX10_elementLine_91 (I142 : Nat → Int64 → Int32 → zS → Prop) (Q : Option Value → zS → Prop) (QX : zS → Prop) (n : Option Nat) (x2 : Int32) (σ : zS) (h : PX10_elementLine_91 (fun y5 y7 τ => ∃ n', zlt n' n ∧ I142 n' y5 y7 τ) Q QX x2 σ) : zwp JX10_elementLine (zB hX10_elementLine (zKt jnX10_elementLine (JIX10_elementLine I142 Q QX) (LIX10_elementLine I142) n 91)) Q QX kX10_elementLine 91 [(0, .ref 0), (1, .ref 1), (2, .int x2)] [] σ := h
set_option maxRecDepth 50000 in
theorem pX10_elementLine_142 (I142 : Nat → Int64 → Int32 → zS → Prop) (Q : Option Value → zS → Prop) (QX : zS → Prop) (m : Nat) (x5 : Int64) (x7 : Int32) (σ : zS) (h : PX10_elementLine_142 (fun y5 y7 τ => ∃ n', zlt n' (some m) ∧ I142 n' y5 y7 τ) Q QX x5 x7 σ) : zwp JX10_elementLine (zB hX10_elementLine (zKt jnX10_elementLine (JIX10_elementLine I142 Q QX) (LIX10_elementLine I142) (some m) 142)) Q QX kX10_elementLine 142 [(0, .ref 0), (1, .ref 1), (5, .long x5), (7, .int x7)] [] σ := h
set_option maxRecDepth 50000 in
theorem rX10_elementLine {Q : Option Value → zS → Prop} {QX : zS → Prop}  {σ : zS} (I142 : Nat → Int64 → Int32 → zS → Prop) (hs142 : ∀ (m : Nat) (x5 : Int64) (x7 : Int32) (σ : zS), I142 m x5 x7 σ → PX10_elementLine_142 (fun y5 y7 τ => ∃ n', zlt n' (some m) ∧ I142 n' y5 y7 τ) Q QX x5 x7 σ) (h0 : PX10_elementLine_0 (fun y5 y7 τ => ∃ n', zlt n' none ∧ I142 n' y5 y7 τ) Q QX  σ) : zCT zZM zmX10_elementLine [.ref 0, .ref 1] σ Q QX := by
  refine zCT_of zZM_ok pnX10 (Nat.le_of_ble_eq_true rfl) kX10_elementLine ksX10_elementLine JX10_elementLine 143 (fun t ht => ?_) hX10_elementLine jnX10_elementLine (JIX10_elementLine I142 Q QX) (LIX10_elementLine I142) (fun n t ln σ' ht hj hI => ?_) (fun m t ln σ' ht hj hI => ?_) (pX10_elementLine_0 I142 Q QX  σ h0)
  · refine zor ht (fun ht => ?_) (fun ht => ?_)
    · skip
      refine zor ht (fun ht => ?_) (fun ht => ?_)
      · skip
        have et := Nat.eq_of_beq_eq_true ht; subst et
        exact Nat.le_of_ble_eq_true rfl
      · skip
        have et := Nat.eq_of_beq_eq_true ht; subst et
        exact Nat.le_of_ble_eq_true rfl
    · skip
      have et := Nat.eq_of_beq_eq_true ht; subst et
      exact Nat.le_of_ble_eq_true rfl
  · refine zor ht (fun ht => ?_) (fun ht => ?_)
    · skip
      refine zor ht (fun ht => ?_) (fun ht => ?_)
      · skip
        have et := Nat.eq_of_beq_eq_true ht; subst et
        have hI : JIX10_elementLine I142 Q QX 62 n ln σ' := hI
        obtain ⟨l0, e0, hI⟩ := zdR_e (i := 0) (q := 0) hI; subst e0
        obtain ⟨l1, e1, hI⟩ := zdR_e (i := 1) (q := 1) hI; subst e1
        obtain ⟨x2, l2, e2, hI⟩ := zdI_e (i := 2) hI; subst e2
        obtain ⟨x3, l3, e3, hI⟩ := zdI_e (i := 3) hI; subst e3
        obtain ⟨e, hI⟩ := zdN_e hI; subst e
        exact pX10_elementLine_62 I142 Q QX n x2 x3 σ' hI
      · skip
        have et := Nat.eq_of_beq_eq_true ht; subst et
        have hI : JIX10_elementLine I142 Q QX 91 n ln σ' := hI
        obtain ⟨l0, e0, hI⟩ := zdR_e (i := 0) (q := 0) hI; subst e0
        obtain ⟨l1, e1, hI⟩ := zdR_e (i := 1) (q := 1) hI; subst e1
        obtain ⟨x2, l2, e2, hI⟩ := zdI_e (i := 2) hI; subst e2
        obtain ⟨e, hI⟩ := zdN_e hI; subst e
        exact pX10_elementLine_91 I142 Q QX n x2 σ' hI
    · skip
      have et := Nat.eq_of_beq_eq_true ht; subst et
      cases hj
  · refine zor ht (fun ht => ?_) (fun ht => ?_)
    · skip
      refine zor ht (fun ht => ?_) (fun ht => ?_)
      · skip
        have et := Nat.eq_of_beq_eq_true ht; subst et
        cases hj
      · skip
        have et := Nat.eq_of_beq_eq_true ht; subst et
        cases hj
    · skip
      have et := Nat.eq_of_beq_eq_true ht; subst et
      have hI : LIX10_elementLine I142 142 m ln σ' := hI
      obtain ⟨l0, e0, hI⟩ := zdR_e (i := 0) (q := 0) hI; subst e0
      obtain ⟨l1, e1, hI⟩ := zdR_e (i := 1) (q := 1) hI; subst e1
      obtain ⟨x5, l5, e5, hI⟩ := zdL_e (i := 5) hI; subst e5
      obtain ⟨x7, l7, e7, hI⟩ := zdI_e (i := 7) hI; subst e7
      obtain ⟨e, hI⟩ := zdN_e hI; subst e
      exact pX10_elementLine_142 I142 Q QX m x5 x7 σ' (hs142 m x5 x7 σ' hI)
def JX10_globalLine : Nat → Bool := fun t => false && Nat.beq t 0
def jnX10_globalLine : Nat → Bool := fun t => false && Nat.beq t 0
def hX10_globalLine : Nat → List Nat := fun t => []
def PX10_globalLine_0  (Q : Option Value → zS → Prop) (QX : zS → Prop)  (σ : zS) : Prop :=
  (((σ.1 1 5) = (32 : Int32) →
    zCT zZM zmX10_wrong [.ref 0, .int (4 : Int32), .int (σ.1 0 12)] σ (zQr (fun r2 s1 =>
      o_athrow zYM 2 Q QX (fun _ _ _ _ => False) [] [.ref r2] s1)) QX) ∧ (¬ (σ.1 1 5) = (32 : Int32) →
    zCT zZM zmX10_type [.ref 0] σ (zQi (fun r4 s3 =>
      vp_in (σ.1 1 5) 32 ∧ ∀ s5 : zS, s5 = zsI s3 33 (σ.1 1 5).toNatClampNeg r4 →
      zCT zZM zmX10_flag [.ref 0] s5 (zQi (fun r7 s6 =>
        vp_in (s5.1 1 5) 32 ∧ ∀ s8 : zS, s8 = zsI s6 34 (s5.1 1 5).toNatClampNeg (vp_nar .boolean r7) →
        zCT zZM zmX10_constant [.ref 0] s8 (zQi (fun r10 s9 =>
          vp_in (s8.1 1 5) 32 ∧ ∀ s11 : zS, s11 = zsI s9 35 (s8.1 1 5).toNatClampNeg r10 →
          ∀ s12 : zS, s12 = zsI s11 1 5 ((s11.1 1 5) + (1 : Int32)) →
          Q none s12)) QX)) QX)) QX))
def LIX10_globalLine  : Nat → Nat → zLo → zS → Prop := fun t n l τ => False
def JIX10_globalLine  (Q : Option Value → zS → Prop) (QX : zS → Prop) : Nat → Option Nat → zLo → zS → Prop := fun t n l τ => False
set_option maxRecDepth 50000 in
theorem pX10_globalLine_0  (Q : Option Value → zS → Prop) (QX : zS → Prop)   (σ : zS) (h : PX10_globalLine_0  Q QX  σ) : zwp JX10_globalLine (zB hX10_globalLine (zKt jnX10_globalLine (JIX10_globalLine  Q QX) (LIX10_globalLine ) none 0)) Q QX kX10_globalLine 0 (lv_args 0 [.ref 0, .ref 1]) [] σ := h
set_option maxRecDepth 50000 in
theorem rX10_globalLine {Q : Option Value → zS → Prop} {QX : zS → Prop}  {σ : zS}   (h0 : PX10_globalLine_0  Q QX  σ) : zCT zZM zmX10_globalLine [.ref 0, .ref 1] σ Q QX := by
  refine zCT_of zZM_ok pnX10 (Nat.le_of_ble_eq_true rfl) kX10_globalLine ksX10_globalLine JX10_globalLine 1 (fun t ht => ?_) hX10_globalLine jnX10_globalLine (JIX10_globalLine  Q QX) (LIX10_globalLine ) (fun n t ln σ' ht hj hI => ?_) (fun m t ln σ' ht hj hI => ?_) (pX10_globalLine_0  Q QX  σ h0)
  · cases ht
  · cases ht
  · cases ht
def JX10_readCode : Nat → Bool := fun t => Nat.beq t 2 || Nat.beq t 35 || Nat.beq t 56 || Nat.beq t 63 || Nat.beq t 92
def jnX10_readCode : Nat → Bool := fun t => Nat.beq t 35 || Nat.beq t 56 || Nat.beq t 63 || Nat.beq t 92
def hX10_readCode : Nat → List Nat := fun t => bif Nat.beq t 2 then [0, 1] else bif Nat.beq t 35 then [0, 1, 2, 3] else bif Nat.beq t 56 then [0, 2] else bif Nat.beq t 63 then [0, 1, 2, 3] else bif Nat.beq t 92 then [0, 1, 3] else []
def PX10_readCode_92 (K2 : Int32 → zS → Prop) (Q : Option Value → zS → Prop) (QX : zS → Prop) (x1 : Int32) (x3 : Int32) (σ : zS) : Prop :=
  ((x3 = (5 : Int32) →
    vp_in (x1 - (1 : Int32)) 61 ∧ ∀ s1 : zS, s1 = zsI σ 6 (x1 - (1 : Int32)).toNatClampNeg (5 : Int32) →
    K2 x1 s1) ∧ (¬ x3 = (5 : Int32) →
    ((x3 = (11 : Int32) →
      ((x1 = 0 →
        Q none σ) ∧ (¬ x1 = 0 →
        K2 (x1 + (-1)) σ))) ∧ (¬ x3 = (11 : Int32) →
      K2 x1 σ))))
def PX10_readCode_63 (K2 : Int32 → zS → Prop) (Q : Option Value → zS → Prop) (QX : zS → Prop) (x1 : Int32) (x2 : Int32) (x3 : Int32) (σ : zS) : Prop :=
  zCT zZM zmX10_operands [.ref 0, .int x3, .int x2] σ (zQv (fun s1 =>
    ((x3 < (2 : Int32) →
      PX10_readCode_92 K2 Q QX x1 x3 s1) ∧ (¬ x3 < (2 : Int32) →
      (((4 : Int32) < x3 →
        PX10_readCode_92 K2 Q QX x1 x3 s1) ∧ (¬ (4 : Int32) < x3 →
        vp_in x1 61 ∧ ∀ s2 : zS, s2 = zsI s1 6 x1.toNatClampNeg x3 →
        K2 (x1 + 1) s2)))))) QX
def PX10_readCode_56 (K2 : Int32 → zS → Prop) (Q : Option Value → zS → Prop) (QX : zS → Prop) (x2 : Int32) (σ : zS) : Prop :=
  zCT zZM zmX10_wrong [.ref 0, .int (1 : Int32), .int x2] σ (zQr (fun r2 s1 =>
    o_athrow zYM 2 Q QX (fun _ _ _ _ => False) [] [.ref r2] s1)) QX
def PX10_readCode_35 (K2 : Int32 → zS → Prop) (Q : Option Value → zS → Prop) (QX : zS → Prop) (x1 : Int32) (x2 : Int32) (x3 : Int32) (σ : zS) : Prop :=
  ((x3 = (5 : Int32) →
    ((x1 = 0 →
      PX10_readCode_56 K2 Q QX x2 σ) ∧ (¬ x1 = 0 →
      vp_in (x1 - (1 : Int32)) 61 ∧
      (((σ.1 6 (x1 - (1 : Int32)).toNatClampNeg) = (4 : Int32) →
        PX10_readCode_63 K2 Q QX x1 x2 x3 σ) ∧ (¬ (σ.1 6 (x1 - (1 : Int32)).toNatClampNeg) = (4 : Int32) →
        PX10_readCode_56 K2 Q QX x2 σ))))) ∧ (¬ x3 = (5 : Int32) →
    PX10_readCode_63 K2 Q QX x1 x2 x3 σ))
def PX10_readCode_2 (K2 : Int32 → zS → Prop) (Q : Option Value → zS → Prop) (QX : zS → Prop) (x1 : Int32) (σ : zS) : Prop :=
  zCT zZM zmX10_octet [.ref 0] σ (zQi (fun r2 s1 =>
    ((r2 < (2 : Int32) →
      PX10_readCode_35 K2 Q QX x1 (σ.1 0 12) r2 s1) ∧ (¬ r2 < (2 : Int32) →
      (((4 : Int32) < r2 →
        PX10_readCode_35 K2 Q QX x1 (σ.1 0 12) r2 s1) ∧ (¬ (4 : Int32) < r2 →
        ((x1 = (60 : Int32) →
          zCT zZM zmX10_wrong [.ref 0, .int (4 : Int32), .int (σ.1 0 12)] s1 (zQr (fun r4 s3 =>
            o_athrow zYM 2 Q QX (fun _ _ _ _ => False) [] [.ref r4] s3)) QX) ∧ (¬ x1 = (60 : Int32) →
          PX10_readCode_35 K2 Q QX x1 (σ.1 0 12) r2 s1)))))))) QX
def PX10_readCode_0 (K2 : Int32 → zS → Prop) (Q : Option Value → zS → Prop) (QX : zS → Prop)  (σ : zS) : Prop :=
  K2 (0 : Int32) σ
def LIX10_readCode (I2 : Nat → Int32 → zS → Prop) : Nat → Nat → zLo → zS → Prop := fun t n l τ => bif Nat.beq t 2 then zdR 0 0 (zdI 1 (fun x1 => zdN (I2 n x1 τ))) l else False
def JIX10_readCode (I2 : Nat → Int32 → zS → Prop) (Q : Option Value → zS → Prop) (QX : zS → Prop) : Nat → Option Nat → zLo → zS → Prop := fun t n l τ => bif Nat.beq t 35 then zdR 0 0 (zdI 1 (fun x1 => zdI 2 (fun x2 => zdI 3 (fun x3 => zdN (PX10_readCode_35 (fun y1 τ => ∃ n', zlt n' n ∧ I2 n' y1 τ) Q QX x1 x2 x3 τ))))) l else bif Nat.beq t 56 then zdR 0 0 (zdI 2 (fun x2 => zdN (PX10_readCode_56 (fun y1 τ => ∃ n', zlt n' n ∧ I2 n' y1 τ) Q QX x2 τ))) l else bif Nat.beq t 63 then zdR 0 0 (zdI 1 (fun x1 => zdI 2 (fun x2 => zdI 3 (fun x3 => zdN (PX10_readCode_63 (fun y1 τ => ∃ n', zlt n' n ∧ I2 n' y1 τ) Q QX x1 x2 x3 τ))))) l else bif Nat.beq t 92 then zdR 0 0 (zdI 1 (fun x1 => zdI 3 (fun x3 => zdN (PX10_readCode_92 (fun y1 τ => ∃ n', zlt n' n ∧ I2 n' y1 τ) Q QX x1 x3 τ)))) l else False
set_option maxRecDepth 50000 in
theorem pX10_readCode_0 (I2 : Nat → Int32 → zS → Prop) (Q : Option Value → zS → Prop) (QX : zS → Prop)   (σ : zS) (h : PX10_readCode_0 (fun y1 τ => ∃ n', zlt n' none ∧ I2 n' y1 τ) Q QX  σ) : zwp JX10_readCode (zB hX10_readCode (zKt jnX10_readCode (JIX10_readCode I2 Q QX) (LIX10_readCode I2) none 0)) Q QX kX10_readCode 0 (lv_args 0 [.ref 0]) [] σ := h
set_option maxRecDepth 50000 in
theorem pX10_readCode_2 (I2 : Nat → Int32 → zS → Prop) (Q : Option Value → zS → Prop) (QX : zS → Prop) (m : Nat) (x1 : Int32) (σ : zS) (h : PX10_readCode_2 (fun y1 τ => ∃ n', zlt n' (some m) ∧ I2 n' y1 τ) Q QX x1 σ) : zwp JX10_readCode (zB hX10_readCode (zKt jnX10_readCode (JIX10_readCode I2 Q QX) (LIX10_readCode I2) (some m) 2)) Q QX kX10_readCode 2 [(0, .ref 0), (1, .int x1)] [] σ := h
set_option maxRecDepth 50000 in
theorem pX10_readCode_35 (I2 : Nat → Int32 → zS → Prop) (Q : Option Value → zS → Prop) (QX : zS → Prop) (n : Option Nat) (x1 : Int32) (x2 : Int32) (x3 : Int32) (σ : zS) (h : PX10_readCode_35 (fun y1 τ => ∃ n', zlt n' n ∧ I2 n' y1 τ) Q QX x1 x2 x3 σ) : zwp JX10_readCode (zB hX10_readCode (zKt jnX10_readCode (JIX10_readCode I2 Q QX) (LIX10_readCode I2) n 35)) Q QX kX10_readCode 35 [(0, .ref 0), (1, .int x1), (2, .int x2), (3, .int x3)] [] σ := h
set_option maxRecDepth 50000 in
theorem pX10_readCode_56 (I2 : Nat → Int32 → zS → Prop) (Q : Option Value → zS → Prop) (QX : zS → Prop) (n : Option Nat) (x2 : Int32) (σ : zS) (h : PX10_readCode_56 (fun y1 τ => ∃ n', zlt n' n ∧ I2 n' y1 τ) Q QX x2 σ) : zwp JX10_readCode (zB hX10_readCode (zKt jnX10_readCode (JIX10_readCode I2 Q QX) (LIX10_readCode I2) n 56)) Q QX kX10_readCode 56 [(0, .ref 0), (2, .int x2)] [] σ := h
set_option maxRecDepth 50000 in
theorem pX10_readCode_63 (I2 : Nat → Int32 → zS → Prop) (Q : Option Value → zS → Prop) (QX : zS → Prop) (n : Option Nat) (x1 : Int32) (x2 : Int32) (x3 : Int32) (σ : zS) (h : PX10_readCode_63 (fun y1 τ => ∃ n', zlt n' n ∧ I2 n' y1 τ) Q QX x1 x2 x3 σ) : zwp JX10_readCode (zB hX10_readCode (zKt jnX10_readCode (JIX10_readCode I2 Q QX) (LIX10_readCode I2) n 63)) Q QX kX10_readCode 63 [(0, .ref 0), (1, .int x1), (2, .int x2), (3, .int x3)] [] σ := h
set_option maxRecDepth 50000 in
theorem pX10_readCode_92 (I2 : Nat → Int32 → zS → Prop) (Q : Option Value → zS → Prop) (QX : zS → Prop) (n : Option Nat) (x1 : Int32) (x3 : Int32) (σ : zS) (h : PX10_readCode_92 (fun y1 τ => ∃ n', zlt n' n ∧ I2 n' y1 τ) Q QX x1 x3 σ) : zwp JX10_readCode (zB hX10_readCode (zKt jnX10_readCode (JIX10_readCode I2 Q QX) (LIX10_readCode I2) n 92)) Q QX kX10_readCode 92 [(0, .ref 0), (1, .int x1), (3, .int x3)] [] σ := h
set_option maxRecDepth 50000 in
theorem rX10_readCode {Q : Option Value → zS → Prop} {QX : zS → Prop}  {σ : zS} (I2 : Nat → Int32 → zS → Prop) (hs2 : ∀ (m : Nat) (x1 : Int32) (σ : zS), I2 m x1 σ → PX10_readCode_2 (fun y1 τ => ∃ n', zlt n' (some m) ∧ I2 n' y1 τ) Q QX x1 σ) (h0 : PX10_readCode_0 (fun y1 τ => ∃ n', zlt n' none ∧ I2 n' y1 τ) Q QX  σ) : zCT zZM zmX10_readCode [.ref 0] σ Q QX := by
  refine zCT_of zZM_ok pnX10 (Nat.le_of_ble_eq_true rfl) kX10_readCode ksX10_readCode JX10_readCode 93 (fun t ht => ?_) hX10_readCode jnX10_readCode (JIX10_readCode I2 Q QX) (LIX10_readCode I2) (fun n t ln σ' ht hj hI => ?_) (fun m t ln σ' ht hj hI => ?_) (pX10_readCode_0 I2 Q QX  σ h0)
  · refine zor ht (fun ht => ?_) (fun ht => ?_)
    · skip
      refine zor ht (fun ht => ?_) (fun ht => ?_)
      · skip
        refine zor ht (fun ht => ?_) (fun ht => ?_)
        · skip
          refine zor ht (fun ht => ?_) (fun ht => ?_)
          · skip
            have et := Nat.eq_of_beq_eq_true ht; subst et
            exact Nat.le_of_ble_eq_true rfl
          · skip
            have et := Nat.eq_of_beq_eq_true ht; subst et
            exact Nat.le_of_ble_eq_true rfl
        · skip
          have et := Nat.eq_of_beq_eq_true ht; subst et
          exact Nat.le_of_ble_eq_true rfl
      · skip
        have et := Nat.eq_of_beq_eq_true ht; subst et
        exact Nat.le_of_ble_eq_true rfl
    · skip
      have et := Nat.eq_of_beq_eq_true ht; subst et
      exact Nat.le_of_ble_eq_true rfl
  · refine zor ht (fun ht => ?_) (fun ht => ?_)
    · skip
      refine zor ht (fun ht => ?_) (fun ht => ?_)
      · skip
        refine zor ht (fun ht => ?_) (fun ht => ?_)
        · skip
          refine zor ht (fun ht => ?_) (fun ht => ?_)
          · skip
            have et := Nat.eq_of_beq_eq_true ht; subst et
            cases hj
          · skip
            have et := Nat.eq_of_beq_eq_true ht; subst et
            have hI : JIX10_readCode I2 Q QX 35 n ln σ' := hI
            obtain ⟨l0, e0, hI⟩ := zdR_e (i := 0) (q := 0) hI; subst e0
            obtain ⟨x1, l1, e1, hI⟩ := zdI_e (i := 1) hI; subst e1
            obtain ⟨x2, l2, e2, hI⟩ := zdI_e (i := 2) hI; subst e2
            obtain ⟨x3, l3, e3, hI⟩ := zdI_e (i := 3) hI; subst e3
            obtain ⟨e, hI⟩ := zdN_e hI; subst e
            exact pX10_readCode_35 I2 Q QX n x1 x2 x3 σ' hI
        · skip
          have et := Nat.eq_of_beq_eq_true ht; subst et
          have hI : JIX10_readCode I2 Q QX 56 n ln σ' := hI
          obtain ⟨l0, e0, hI⟩ := zdR_e (i := 0) (q := 0) hI; subst e0
          obtain ⟨x2, l2, e2, hI⟩ := zdI_e (i := 2) hI; subst e2
          obtain ⟨e, hI⟩ := zdN_e hI; subst e
          exact pX10_readCode_56 I2 Q QX n x2 σ' hI
      · skip
        have et := Nat.eq_of_beq_eq_true ht; subst et
        have hI : JIX10_readCode I2 Q QX 63 n ln σ' := hI
        obtain ⟨l0, e0, hI⟩ := zdR_e (i := 0) (q := 0) hI; subst e0
        obtain ⟨x1, l1, e1, hI⟩ := zdI_e (i := 1) hI; subst e1
        obtain ⟨x2, l2, e2, hI⟩ := zdI_e (i := 2) hI; subst e2
        obtain ⟨x3, l3, e3, hI⟩ := zdI_e (i := 3) hI; subst e3
        obtain ⟨e, hI⟩ := zdN_e hI; subst e
        exact pX10_readCode_63 I2 Q QX n x1 x2 x3 σ' hI
    · skip
      have et := Nat.eq_of_beq_eq_true ht; subst et
      have hI : JIX10_readCode I2 Q QX 92 n ln σ' := hI
      obtain ⟨l0, e0, hI⟩ := zdR_e (i := 0) (q := 0) hI; subst e0
      obtain ⟨x1, l1, e1, hI⟩ := zdI_e (i := 1) hI; subst e1
      obtain ⟨x3, l3, e3, hI⟩ := zdI_e (i := 3) hI; subst e3
      obtain ⟨e, hI⟩ := zdN_e hI; subst e
      exact pX10_readCode_92 I2 Q QX n x1 x3 σ' hI
  · refine zor ht (fun ht => ?_) (fun ht => ?_)
    · skip
      refine zor ht (fun ht => ?_) (fun ht => ?_)
      · skip
        refine zor ht (fun ht => ?_) (fun ht => ?_)
        · skip
          refine zor ht (fun ht => ?_) (fun ht => ?_)
          · skip
            have et := Nat.eq_of_beq_eq_true ht; subst et
            have hI : LIX10_readCode I2 2 m ln σ' := hI
            obtain ⟨l0, e0, hI⟩ := zdR_e (i := 0) (q := 0) hI; subst e0
            obtain ⟨x1, l1, e1, hI⟩ := zdI_e (i := 1) hI; subst e1
            obtain ⟨e, hI⟩ := zdN_e hI; subst e
            exact pX10_readCode_2 I2 Q QX m x1 σ' (hs2 m x1 σ' hI)
          · skip
            have et := Nat.eq_of_beq_eq_true ht; subst et
            cases hj
        · skip
          have et := Nat.eq_of_beq_eq_true ht; subst et
          cases hj
      · skip
        have et := Nat.eq_of_beq_eq_true ht; subst et
        cases hj
    · skip
      have et := Nat.eq_of_beq_eq_true ht; subst et
      cases hj
def JX10_walked : Nat → Bool := fun t => Nat.beq t 36
def jnX10_walked : Nat → Bool := fun t => false && Nat.beq t 0
def hX10_walked : Nat → List Nat := fun t => bif Nat.beq t 36 then [0, 2] else []
def PX10_walked_36 (K36 : Int32 → zS → Prop) (Q : Option Value → zS → Prop) (QX : zS → Prop) (x2 : Int32) (σ : zS) : Prop :=
  (((σ.1 0 13) ≤ (σ.1 0 12) →
    Q (some (.int (-1 : Int32))) σ) ∧ (¬ (σ.1 0 13) ≤ (σ.1 0 12) →
    zCT zZM zmX10_octet [.ref 0] σ (zQi (fun r2 s1 =>
      ((r2 = (252 : Int32) →
        zCT zZM zmX10_u [.ref 0] s1 (zQl (fun r4 s3 =>
          ∀ s5 : zS, s5 = zsI s3 0 12 ((σ.1 0 12) + (1 : Int32)) →
          (((s5.1 0 8) = x2 →
            Q (some (.int ((256 : Int32) + (r4.toInt32)))) s5) ∧ (¬ (s5.1 0 8) = x2 →
            zCT zZM zmX10_operands [.ref 0, .int r2, .int (σ.1 0 12)] s5 (zQv (fun s6 =>
              ∀ s7 : zS, s7 = zsI s6 0 8 ((s6.1 0 8) + (1 : Int32)) →
              K36 x2 s7)) QX)))) QX) ∧ (¬ r2 = (252 : Int32) →
        (((s1.1 0 8) = x2 →
          Q (some (.int r2)) s1) ∧ (¬ (s1.1 0 8) = x2 →
          zCT zZM zmX10_operands [.ref 0, .int r2, .int (σ.1 0 12)] s1 (zQv (fun s8 =>
            ∀ s9 : zS, s9 = zsI s8 0 8 ((s8.1 0 8) + (1 : Int32)) →
            K36 x2 s9)) QX)))))) QX))
def PX10_walked_0 (K36 : Int32 → zS → Prop) (Q : Option Value → zS → Prop) (QX : zS → Prop) (a1 : Int32) (a2 : Int32) (σ : zS) : Prop :=
  vp_in a1 64 ∧
  ∀ s1 : zS, s1 = zsI σ 0 12 (σ.1 96 a1.toNatClampNeg) →
  vp_in a1 64 ∧
  ∀ s2 : zS, s2 = zsI s1 0 13 (s1.1 97 a1.toNatClampNeg) →
  ((1 : Int32) = 0 ∨ (1 : Int32) = 1) ∧ ∀ s3 : zS, s3 = zsI s2 0 18 (1 : Int32) →
  ∀ s4 : zS, s4 = zsI s3 0 8 (0 : Int32) →
  K36 a2 s4
def LIX10_walked (I36 : Nat → Int32 → zS → Prop) : Nat → Nat → zLo → zS → Prop := fun t n l τ => bif Nat.beq t 36 then zdR 0 0 (zdI 2 (fun x2 => zdN (I36 n x2 τ))) l else False
def JIX10_walked (I36 : Nat → Int32 → zS → Prop) (Q : Option Value → zS → Prop) (QX : zS → Prop) : Nat → Option Nat → zLo → zS → Prop := fun t n l τ => False
set_option maxRecDepth 50000 in
theorem pX10_walked_0 (I36 : Nat → Int32 → zS → Prop) (Q : Option Value → zS → Prop) (QX : zS → Prop)  (a1 : Int32) (a2 : Int32) (σ : zS) (h : PX10_walked_0 (fun y2 τ => ∃ n', zlt n' none ∧ I36 n' y2 τ) Q QX a1 a2 σ) : zwp JX10_walked (zB hX10_walked (zKt jnX10_walked (JIX10_walked I36 Q QX) (LIX10_walked I36) none 0)) Q QX kX10_walked 0 (lv_args 0 [.ref 0, .int a1, .int a2]) [] σ := h
set_option maxRecDepth 50000 in
theorem pX10_walked_36 (I36 : Nat → Int32 → zS → Prop) (Q : Option Value → zS → Prop) (QX : zS → Prop) (m : Nat) (x2 : Int32) (σ : zS) (h : PX10_walked_36 (fun y2 τ => ∃ n', zlt n' (some m) ∧ I36 n' y2 τ) Q QX x2 σ) : zwp JX10_walked (zB hX10_walked (zKt jnX10_walked (JIX10_walked I36 Q QX) (LIX10_walked I36) (some m) 36)) Q QX kX10_walked 36 [(0, .ref 0), (2, .int x2)] [] σ := h
set_option maxRecDepth 50000 in
theorem rX10_walked {Q : Option Value → zS → Prop} {QX : zS → Prop} {a1 : Int32} {a2 : Int32} {σ : zS} (I36 : Nat → Int32 → zS → Prop) (hs36 : ∀ (m : Nat) (x2 : Int32) (σ : zS), I36 m x2 σ → PX10_walked_36 (fun y2 τ => ∃ n', zlt n' (some m) ∧ I36 n' y2 τ) Q QX x2 σ) (h0 : PX10_walked_0 (fun y2 τ => ∃ n', zlt n' none ∧ I36 n' y2 τ) Q QX a1 a2 σ) : zCT zZM zmX10_walked [.ref 0, .int a1, .int a2] σ Q QX := by
  refine zCT_of zZM_ok pnX10 (Nat.le_of_ble_eq_true rfl) kX10_walked ksX10_walked JX10_walked 37 (fun t ht => ?_) hX10_walked jnX10_walked (JIX10_walked I36 Q QX) (LIX10_walked I36) (fun n t ln σ' ht hj hI => ?_) (fun m t ln σ' ht hj hI => ?_) (pX10_walked_0 I36 Q QX a1 a2 σ h0)
  · have et := Nat.eq_of_beq_eq_true ht; subst et
    exact Nat.le_of_ble_eq_true rfl
  · have et := Nat.eq_of_beq_eq_true ht; subst et
    cases hj
  · have et := Nat.eq_of_beq_eq_true ht; subst et
    have hI : LIX10_walked I36 36 m ln σ' := hI
    obtain ⟨l0, e0, hI⟩ := zdR_e (i := 0) (q := 0) hI; subst e0
    obtain ⟨x2, l2, e2, hI⟩ := zdI_e (i := 2) hI; subst e2
    obtain ⟨e, hI⟩ := zdN_e hI; subst e
    exact pX10_walked_36 I36 Q QX m x2 σ' (hs36 m x2 σ' hI)
def JX10_body : Nat → Bool := fun t => Nat.beq t 67
def jnX10_body : Nat → Bool := fun t => false && Nat.beq t 0
def hX10_body : Nat → List Nat := fun t => bif Nat.beq t 67 then [0, 1, 5, 6, 7, 9, 11] else []
def PX10_body_67 (K67 : Int32 → Int32 → Int64 → Int64 → Int64 → zS → Prop) (Q : Option Value → zS → Prop) (QX : zS → Prop) (x5 : Int32) (x6 : Int32) (x7 : Int64) (x9 : Int64) (x11 : Int64) (σ : zS) : Prop :=
  ((x7 ≤ x11 →
    zCT zZM zmX10_readCode [.ref 0] σ (zQv (fun s1 =>
      (((s1.1 0 13) ≤ (s1.1 0 12) →
        (((64 : Int32) ≤ (s1.1 1 9) →
          ∀ s2 : zS, s2 = zsI s1 1 9 ((s1.1 1 9) + (1 : Int32)) →
          ∀ s3 : zS, s3 = zsI s2 0 13 x5 →
          Q none s3) ∧ (¬ (64 : Int32) ≤ (s1.1 1 9) →
          vp_in (s1.1 1 9) 64 ∧ ∀ s4 : zS, s4 = zsI s1 52 (s1.1 1 9).toNatClampNeg x6 →
          vp_in (s4.1 1 9) 64 ∧ ∀ s5 : zS, s5 = zsI s4 53 (s4.1 1 9).toNatClampNeg (σ.1 0 12) →
          vp_in (s5.1 1 9) 64 ∧ ∀ s6 : zS, s6 = zsI s5 54 (s5.1 1 9).toNatClampNeg (s5.1 0 13) →
          ∀ s7 : zS, s7 = zsI s6 1 9 ((s6.1 1 9) + (1 : Int32)) →
          ∀ s8 : zS, s8 = zsI s7 0 13 x5 →
          Q none s8))) ∧ (¬ (s1.1 0 13) ≤ (s1.1 0 12) →
        zCT zZM zmX10_wrong [.ref 0, .int (1 : Int32), .int (s1.1 0 12)] s1 (zQr (fun r10 s9 =>
          o_athrow zYM 2 Q QX (fun _ _ _ _ => False) [] [.ref r10] s9)) QX)))) QX) ∧ (¬ x7 ≤ x11 →
    zCT zZM zmX10_u [.ref 0] σ (zQl (fun r12 s11 =>
      zCT zZM zmX10_type [.ref 0] s11 (zQi (fun r14 s13 =>
        (((x9 + r12) ≤ (64 : Int64) →
          K67 x5 x6 x7 (x9 + r12) (x11 + (1 : Int64)) s13) ∧ (¬ (x9 + r12) ≤ (64 : Int64) →
          zCT zZM zmX10_wrong [.ref 0, .int (4 : Int32), .int (σ.1 0 12)] s13 (zQr (fun r16 s15 =>
            o_athrow zYM 2 Q QX (fun _ _ _ _ => False) [] [.ref r16] s15)) QX)))) QX)) QX))
def PX10_body_0 (K67 : Int32 → Int32 → Int64 → Int64 → Int64 → zS → Prop) (Q : Option Value → zS → Prop) (QX : zS → Prop)  (σ : zS) : Prop :=
  zCT zZM zmX10_u [.ref 0] σ (zQl (fun r2 s1 =>
    ((r2 ≤ (((s1.1 0 13) - (s1.1 0 12)).toInt64) →
      ∀ s3 : zS, s3 = zsI s1 0 13 ((s1.1 0 12) + (r2.toInt32)) →
      zCT zZM zmX10_u [.ref 0] s3 (zQl (fun r5 s4 =>
        K67 (s1.1 0 13) (s3.1 0 12) r5 (0 : Int64) (0 : Int64) s4)) QX) ∧ (¬ r2 ≤ (((s1.1 0 13) - (s1.1 0 12)).toInt64) →
      zCT zZM zmX10_wrong [.ref 0, .int (1 : Int32), .int (σ.1 0 12)] s1 (zQr (fun r7 s6 =>
        o_athrow zYM 2 Q QX (fun _ _ _ _ => False) [] [.ref r7] s6)) QX)))) QX
def LIX10_body (I67 : Nat → Int32 → Int32 → Int64 → Int64 → Int64 → zS → Prop) : Nat → Nat → zLo → zS → Prop := fun t n l τ => bif Nat.beq t 67 then zdR 0 0 (zdR 1 1 (zdI 5 (fun x5 => zdI 6 (fun x6 => zdL 7 (fun x7 => zdL 9 (fun x9 => zdL 11 (fun x11 => zdN (I67 n x5 x6 x7 x9 x11 τ)))))))) l else False
def JIX10_body (I67 : Nat → Int32 → Int32 → Int64 → Int64 → Int64 → zS → Prop) (Q : Option Value → zS → Prop) (QX : zS → Prop) : Nat → Option Nat → zLo → zS → Prop := fun t n l τ => False
set_option maxRecDepth 50000 in
theorem pX10_body_0 (I67 : Nat → Int32 → Int32 → Int64 → Int64 → Int64 → zS → Prop) (Q : Option Value → zS → Prop) (QX : zS → Prop)   (σ : zS) (h : PX10_body_0 (fun y5 y6 y7 y9 y11 τ => ∃ n', zlt n' none ∧ I67 n' y5 y6 y7 y9 y11 τ) Q QX  σ) : zwp JX10_body (zB hX10_body (zKt jnX10_body (JIX10_body I67 Q QX) (LIX10_body I67) none 0)) Q QX kX10_body 0 (lv_args 0 [.ref 0, .ref 1]) [] σ := h
set_option maxRecDepth 50000 in
theorem pX10_body_67 (I67 : Nat → Int32 → Int32 → Int64 → Int64 → Int64 → zS → Prop) (Q : Option Value → zS → Prop) (QX : zS → Prop) (m : Nat) (x5 : Int32) (x6 : Int32) (x7 : Int64) (x9 : Int64) (x11 : Int64) (σ : zS) (h : PX10_body_67 (fun y5 y6 y7 y9 y11 τ => ∃ n', zlt n' (some m) ∧ I67 n' y5 y6 y7 y9 y11 τ) Q QX x5 x6 x7 x9 x11 σ) : zwp JX10_body (zB hX10_body (zKt jnX10_body (JIX10_body I67 Q QX) (LIX10_body I67) (some m) 67)) Q QX kX10_body 67 [(0, .ref 0), (1, .ref 1), (5, .int x5), (6, .int x6), (7, .long x7), (9, .long x9), (11, .long x11)] [] σ := h
set_option maxRecDepth 50000 in
theorem rX10_body {Q : Option Value → zS → Prop} {QX : zS → Prop}  {σ : zS} (I67 : Nat → Int32 → Int32 → Int64 → Int64 → Int64 → zS → Prop) (hs67 : ∀ (m : Nat) (x5 : Int32) (x6 : Int32) (x7 : Int64) (x9 : Int64) (x11 : Int64) (σ : zS), I67 m x5 x6 x7 x9 x11 σ → PX10_body_67 (fun y5 y6 y7 y9 y11 τ => ∃ n', zlt n' (some m) ∧ I67 n' y5 y6 y7 y9 y11 τ) Q QX x5 x6 x7 x9 x11 σ) (h0 : PX10_body_0 (fun y5 y6 y7 y9 y11 τ => ∃ n', zlt n' none ∧ I67 n' y5 y6 y7 y9 y11 τ) Q QX  σ) : zCT zZM zmX10_body [.ref 0, .ref 1] σ Q QX := by
  refine zCT_of zZM_ok pnX10 (Nat.le_of_ble_eq_true rfl) kX10_body ksX10_body JX10_body 68 (fun t ht => ?_) hX10_body jnX10_body (JIX10_body I67 Q QX) (LIX10_body I67) (fun n t ln σ' ht hj hI => ?_) (fun m t ln σ' ht hj hI => ?_) (pX10_body_0 I67 Q QX  σ h0)
  · have et := Nat.eq_of_beq_eq_true ht; subst et
    exact Nat.le_of_ble_eq_true rfl
  · have et := Nat.eq_of_beq_eq_true ht; subst et
    cases hj
  · have et := Nat.eq_of_beq_eq_true ht; subst et
    have hI : LIX10_body I67 67 m ln σ' := hI
    obtain ⟨l0, e0, hI⟩ := zdR_e (i := 0) (q := 0) hI; subst e0
    obtain ⟨l1, e1, hI⟩ := zdR_e (i := 1) (q := 1) hI; subst e1
    obtain ⟨x5, l5, e5, hI⟩ := zdI_e (i := 5) hI; subst e5
    obtain ⟨x6, l6, e6, hI⟩ := zdI_e (i := 6) hI; subst e6
    obtain ⟨x7, l7, e7, hI⟩ := zdL_e (i := 7) hI; subst e7
    obtain ⟨x9, l9, e9, hI⟩ := zdL_e (i := 9) hI; subst e9
    obtain ⟨x11, l11, e11, hI⟩ := zdL_e (i := 11) hI; subst e11
    obtain ⟨e, hI⟩ := zdN_e hI; subst e
    exact pX10_body_67 I67 Q QX m x5 x6 x7 x9 x11 σ' (hs67 m x5 x6 x7 x9 x11 σ' hI)
def JX10_code : Nat → Bool := fun t => false && Nat.beq t 0
def jnX10_code : Nat → Bool := fun t => false && Nat.beq t 0
def hX10_code : Nat → List Nat := fun t => []
def PX10_code_0  (Q : Option Value → zS → Prop) (QX : zS → Prop) (a1 : Int32) (a2 : Int32) (σ : zS) : Prop :=
  zCT zZM zmX10_isOwn [.ref 0, .int a1] σ (zQi (fun r2 s1 =>
    ((r2 = 0 →
      Q (some (.int (-1 : Int32))) s1) ∧ (¬ r2 = 0 →
      ((a2 < 0 →
        Q (some (.int (-1 : Int32))) s1) ∧ (¬ a2 < 0 →
        zCT zZM zmX10_walked [.ref 0, .int a1, .int a2] s1 (zQi (fun r4 s3 =>
          Q (some (.int r4)) s3)) QX)))))) QX
def LIX10_code  : Nat → Nat → zLo → zS → Prop := fun t n l τ => False
def JIX10_code  (Q : Option Value → zS → Prop) (QX : zS → Prop) : Nat → Option Nat → zLo → zS → Prop := fun t n l τ => False
set_option maxRecDepth 50000 in
theorem pX10_code_0  (Q : Option Value → zS → Prop) (QX : zS → Prop)  (a1 : Int32) (a2 : Int32) (σ : zS) (h : PX10_code_0  Q QX a1 a2 σ) : zwp JX10_code (zB hX10_code (zKt jnX10_code (JIX10_code  Q QX) (LIX10_code ) none 0)) Q QX kX10_code 0 (lv_args 0 [.ref 0, .int a1, .int a2]) [] σ := h
set_option maxRecDepth 50000 in
theorem rX10_code {Q : Option Value → zS → Prop} {QX : zS → Prop} {a1 : Int32} {a2 : Int32} {σ : zS}   (h0 : PX10_code_0  Q QX a1 a2 σ) : zCT zZM zmX10_code [.ref 0, .int a1, .int a2] σ Q QX := by
  refine zCT_of zZM_ok pnX10 (Nat.le_of_ble_eq_true rfl) kX10_code ksX10_code JX10_code 1 (fun t ht => ?_) hX10_code jnX10_code (JIX10_code  Q QX) (LIX10_code ) (fun n t ln σ' ht hj hI => ?_) (fun m t ln σ' ht hj hI => ?_) (pX10_code_0  Q QX a1 a2 σ h0)
  · cases ht
  · cases ht
  · cases ht
def JX10_instructions : Nat → Bool := fun t => false && Nat.beq t 0
def jnX10_instructions : Nat → Bool := fun t => false && Nat.beq t 0
def hX10_instructions : Nat → List Nat := fun t => []
def PX10_instructions_0  (Q : Option Value → zS → Prop) (QX : zS → Prop) (a1 : Int32) (σ : zS) : Prop :=
  zCT zZM zmX10_isOwn [.ref 0, .int a1] σ (zQi (fun r2 s1 =>
    ((r2 = 0 →
      Q (some (.int (-1 : Int32))) s1) ∧ (¬ r2 = 0 →
      zCT zZM zmX10_walked [.ref 0, .int a1, .int (-1 : Int32)] s1 (zQi (fun r4 s3 =>
        Q (some (.int (s3.1 0 8))) s3)) QX)))) QX
def LIX10_instructions  : Nat → Nat → zLo → zS → Prop := fun t n l τ => False
def JIX10_instructions  (Q : Option Value → zS → Prop) (QX : zS → Prop) : Nat → Option Nat → zLo → zS → Prop := fun t n l τ => False
set_option maxRecDepth 50000 in
theorem pX10_instructions_0  (Q : Option Value → zS → Prop) (QX : zS → Prop)  (a1 : Int32) (σ : zS) (h : PX10_instructions_0  Q QX a1 σ) : zwp JX10_instructions (zB hX10_instructions (zKt jnX10_instructions (JIX10_instructions  Q QX) (LIX10_instructions ) none 0)) Q QX kX10_instructions 0 (lv_args 0 [.ref 0, .int a1]) [] σ := h
set_option maxRecDepth 50000 in
theorem rX10_instructions {Q : Option Value → zS → Prop} {QX : zS → Prop} {a1 : Int32} {σ : zS}   (h0 : PX10_instructions_0  Q QX a1 σ) : zCT zZM zmX10_instructions [.ref 0, .int a1] σ Q QX := by
  refine zCT_of zZM_ok pnX10 (Nat.le_of_ble_eq_true rfl) kX10_instructions ksX10_instructions JX10_instructions 1 (fun t ht => ?_) hX10_instructions jnX10_instructions (JIX10_instructions  Q QX) (LIX10_instructions ) (fun n t ln σ' ht hj hI => ?_) (fun m t ln σ' ht hj hI => ?_) (pX10_instructions_0  Q QX a1 σ h0)
  · cases ht
  · cases ht
  · cases ht
def JX10_means : Nat → Bool := fun t => Nat.beq t 10 || Nat.beq t 57 || Nat.beq t 77 || Nat.beq t 116 || Nat.beq t 182 || Nat.beq t 225 || Nat.beq t 315 || Nat.beq t 381 || Nat.beq t 435 || Nat.beq t 497
def jnX10_means : Nat → Bool := fun t => Nat.beq t 57 || Nat.beq t 77
def hX10_means : Nat → List Nat := fun t => bif Nat.beq t 10 then [0, 1, 2] else bif Nat.beq t 57 then [0, 1, 2] else bif Nat.beq t 77 then [0, 1, 2] else bif Nat.beq t 116 then [0, 1, 2] else bif Nat.beq t 182 then [0, 1, 2] else bif Nat.beq t 225 then [0, 1, 2] else bif Nat.beq t 315 then [0, 1, 2] else bif Nat.beq t 381 then [0, 1, 2, 3] else bif Nat.beq t 435 then [0, 1, 2] else bif Nat.beq t 497 then [0, 1, 2] else []
def PX10_means_497 (K10 : Int32 → zS → Prop) (K116 : Int32 → zS → Prop) (K182 : Int32 → zS → Prop) (K225 : Int32 → zS → Prop) (K315 : Int32 → zS → Prop) (K381 : Int32 → Int32 → zS → Prop) (K435 : Int32 → zS → Prop) (K497 : Int32 → zS → Prop) (Q : Option Value → zS → Prop) (QX : zS → Prop) (x2 : Int32) (σ : zS) : Prop :=
  (((σ.1 1 4) ≤ x2 →
    Q none σ) ∧ (¬ (σ.1 1 4) ≤ x2 →
    zCT zZM zmX10_checkBody [.ref 0, .ref 1, .int x2] σ (zQv (fun s1 =>
      K497 (x2 + 1) s1)) QX))
def PX10_means_435 (K10 : Int32 → zS → Prop) (K116 : Int32 → zS → Prop) (K182 : Int32 → zS → Prop) (K225 : Int32 → zS → Prop) (K315 : Int32 → zS → Prop) (K381 : Int32 → Int32 → zS → Prop) (K435 : Int32 → zS → Prop) (K497 : Int32 → zS → Prop) (Q : Option Value → zS → Prop) (QX : zS → Prop) (x2 : Int32) (σ : zS) : Prop :=
  (((σ.1 1 8) ≤ x2 →
    K497 (0 : Int32) σ) ∧ (¬ (σ.1 1 8) ≤ x2 →
    vp_in x2 32 ∧
    (((σ.1 47 x2.toNatClampNeg) = 0 →
      zCT zZM zmX9_has [.ref 1, .int (2 : Int32)] σ (zQi (fun r2 s1 =>
        vp_in x2 32 ∧
        zCT zZM zmX10_must [.ref 0, .int r2, .int (s1.1 48 x2.toNatClampNeg)] s1 (zQv (fun s3 =>
          vp_in x2 32 ∧
          zCT zZM zmX10_isConstant [.ref 0, .ref 1, .int (s3.1 49 x2.toNatClampNeg), .int (0 : Int32)] s3 (zQi (fun r5 s4 =>
            vp_in x2 32 ∧
            zCT zZM zmX10_must [.ref 0, .int r5, .int (s4.1 49 x2.toNatClampNeg)] s4 (zQv (fun s6 =>
              K435 (x2 + 1) s6)) QX)) QX)) QX)) QX) ∧ (¬ (σ.1 47 x2.toNatClampNeg) = 0 →
      K435 (x2 + 1) σ))))
def PX10_means_381 (K10 : Int32 → zS → Prop) (K116 : Int32 → zS → Prop) (K182 : Int32 → zS → Prop) (K225 : Int32 → zS → Prop) (K315 : Int32 → zS → Prop) (K381 : Int32 → Int32 → zS → Prop) (K435 : Int32 → zS → Prop) (K497 : Int32 → zS → Prop) (Q : Option Value → zS → Prop) (QX : zS → Prop) (x2 : Int32) (x3 : Int32) (σ : zS) : Prop :=
  vp_in x2 32 ∧
  (((σ.1 46 x2.toNatClampNeg) ≤ x3 →
    K315 (x2 + 1) σ) ∧ (¬ (σ.1 46 x2.toNatClampNeg) ≤ x3 →
    zCT zZM zmX10_u [.ref 0] σ (zQl (fun r2 s1 =>
      zCT zZM zmX10_functionsOf [.ref 1] s1 (zQi (fun r4 s3 =>
        (((r4.toInt64) ≤ r2 →
          zCT zZM zmX10_must [.ref 0, .int (0 : Int32), .int (σ.1 0 12)] s3 (zQv (fun s5 =>
            K381 x2 (x3 + 1) s5)) QX) ∧ (¬ (r4.toInt64) ≤ r2 →
          zCT zZM zmX10_must [.ref 0, .int (1 : Int32), .int (σ.1 0 12)] s3 (zQv (fun s6 =>
            K381 x2 (x3 + 1) s6)) QX)))) QX)) QX))
def PX10_means_315 (K10 : Int32 → zS → Prop) (K116 : Int32 → zS → Prop) (K182 : Int32 → zS → Prop) (K225 : Int32 → zS → Prop) (K315 : Int32 → zS → Prop) (K381 : Int32 → Int32 → zS → Prop) (K435 : Int32 → zS → Prop) (K497 : Int32 → zS → Prop) (Q : Option Value → zS → Prop) (QX : zS → Prop) (x2 : Int32) (σ : zS) : Prop :=
  (((σ.1 1 7) ≤ x2 →
    K435 (0 : Int32) σ) ∧ (¬ (σ.1 1 7) ≤ x2 →
    vp_in x2 32 ∧
    (((σ.1 42 x2.toNatClampNeg) = 0 →
      zCT zZM zmX9_has [.ref 1, .int (1 : Int32)] σ (zQi (fun r2 s1 =>
        vp_in x2 32 ∧
        zCT zZM zmX10_must [.ref 0, .int r2, .int (s1.1 43 x2.toNatClampNeg)] s1 (zQv (fun s3 =>
          vp_in x2 32 ∧
          zCT zZM zmX10_isConstant [.ref 0, .ref 1, .int (s3.1 44 x2.toNatClampNeg), .int (0 : Int32)] s3 (zQi (fun r5 s4 =>
            vp_in x2 32 ∧
            zCT zZM zmX10_must [.ref 0, .int r5, .int (s4.1 44 x2.toNatClampNeg)] s4 (zQv (fun s6 =>
              vp_in x2 32 ∧
              ∀ s7 : zS, s7 = zsI s6 0 12 (s6.1 45 x2.toNatClampNeg) →
              K381 x2 (0 : Int32) s7)) QX)) QX)) QX)) QX) ∧ (¬ (σ.1 42 x2.toNatClampNeg) = 0 →
      vp_in x2 32 ∧
      ∀ s8 : zS, s8 = zsI σ 0 12 (σ.1 45 x2.toNatClampNeg) →
      K381 x2 (0 : Int32) s8))))
def PX10_means_225 (K10 : Int32 → zS → Prop) (K116 : Int32 → zS → Prop) (K182 : Int32 → zS → Prop) (K225 : Int32 → zS → Prop) (K315 : Int32 → zS → Prop) (K381 : Int32 → Int32 → zS → Prop) (K435 : Int32 → zS → Prop) (K497 : Int32 → zS → Prop) (Q : Option Value → zS → Prop) (QX : zS → Prop) (x2 : Int32) (σ : zS) : Prop :=
  (((σ.1 1 6) ≤ x2 →
    (((σ.1 1 10) < 0 →
      K315 (0 : Int32) σ) ∧ (¬ (σ.1 1 10) < 0 →
      zCT zZM zmX10_functionsOf [.ref 1] σ (zQi (fun r2 s1 =>
        ((r2 ≤ (σ.1 1 10) →
          zCT zZM zmX10_must [.ref 0, .int (0 : Int32), .int (s1.1 1 11)] s1 (zQv (fun s3 =>
            zCT zZM zmX10_sigOf [.ref 1, .int (s3.1 1 10)] s3 (zQi (fun r5 s4 =>
              zCT zZM zmX10_parameters [.int r5] s4 (zQi (fun r7 s6 =>
                ((r7 = 0 →
                  zCT zZM zmX10_resultOf [.int r5] s6 (zQi (fun r9 s8 =>
                    ((r9 = (2 : Int32) →
                      zCT zZM zmX10_must [.ref 0, .int (1 : Int32), .int (s8.1 1 11)] s8 (zQv (fun s10 =>
                        K315 (0 : Int32) s10)) QX) ∧ (¬ r9 = (2 : Int32) →
                      zCT zZM zmX10_must [.ref 0, .int (0 : Int32), .int (s8.1 1 11)] s8 (zQv (fun s11 =>
                        K315 (0 : Int32) s11)) QX)))) QX) ∧ (¬ r7 = 0 →
                  zCT zZM zmX10_must [.ref 0, .int (0 : Int32), .int (s6.1 1 11)] s6 (zQv (fun s12 =>
                    K315 (0 : Int32) s12)) QX)))) QX)) QX)) QX) ∧ (¬ r2 ≤ (σ.1 1 10) →
          zCT zZM zmX10_must [.ref 0, .int (1 : Int32), .int (s1.1 1 11)] s1 (zQv (fun s13 =>
            zCT zZM zmX10_sigOf [.ref 1, .int (s13.1 1 10)] s13 (zQi (fun r15 s14 =>
              zCT zZM zmX10_parameters [.int r15] s14 (zQi (fun r17 s16 =>
                ((r17 = 0 →
                  zCT zZM zmX10_resultOf [.int r15] s16 (zQi (fun r19 s18 =>
                    ((r19 = (2 : Int32) →
                      zCT zZM zmX10_must [.ref 0, .int (1 : Int32), .int (s18.1 1 11)] s18 (zQv (fun s20 =>
                        K315 (0 : Int32) s20)) QX) ∧ (¬ r19 = (2 : Int32) →
                      zCT zZM zmX10_must [.ref 0, .int (0 : Int32), .int (s18.1 1 11)] s18 (zQv (fun s21 =>
                        K315 (0 : Int32) s21)) QX)))) QX) ∧ (¬ r17 = 0 →
                  zCT zZM zmX10_must [.ref 0, .int (0 : Int32), .int (s16.1 1 11)] s16 (zQv (fun s22 =>
                    K315 (0 : Int32) s22)) QX)))) QX)) QX)) QX)))) QX))) ∧ (¬ (σ.1 1 6) ≤ x2 →
    zCT zZM zmX10_exported [.ref 0, .ref 1, .int x2] σ (zQv (fun s23 =>
      K225 (x2 + 1) s23)) QX))
def PX10_means_182 (K10 : Int32 → zS → Prop) (K116 : Int32 → zS → Prop) (K182 : Int32 → zS → Prop) (K225 : Int32 → zS → Prop) (K315 : Int32 → zS → Prop) (K381 : Int32 → Int32 → zS → Prop) (K435 : Int32 → zS → Prop) (K497 : Int32 → zS → Prop) (Q : Option Value → zS → Prop) (QX : zS → Prop) (x2 : Int32) (σ : zS) : Prop :=
  (((σ.1 1 5) ≤ x2 →
    K225 (0 : Int32) σ) ∧ (¬ (σ.1 1 5) ≤ x2 →
    vp_in x2 32 ∧
    vp_in x2 32 ∧
    zCT zZM zmX10_isConstant [.ref 0, .ref 1, .int (σ.1 35 x2.toNatClampNeg), .int (σ.1 33 x2.toNatClampNeg)] σ (zQi (fun r2 s1 =>
      vp_in x2 32 ∧
      zCT zZM zmX10_must [.ref 0, .int r2, .int (s1.1 35 x2.toNatClampNeg)] s1 (zQv (fun s3 =>
        K182 (x2 + 1) s3)) QX)) QX))
def PX10_means_116 (K10 : Int32 → zS → Prop) (K116 : Int32 → zS → Prop) (K182 : Int32 → zS → Prop) (K225 : Int32 → zS → Prop) (K315 : Int32 → zS → Prop) (K381 : Int32 → Int32 → zS → Prop) (K435 : Int32 → zS → Prop) (K497 : Int32 → zS → Prop) (Q : Option Value → zS → Prop) (QX : zS → Prop) (x2 : Int32) (σ : zS) : Prop :=
  (((σ.1 1 4) ≤ x2 →
    zCT zZM zmX10_one [.ref 0, .ref 1, .int (1 : Int32), .int (σ.1 1 12)] σ (zQv (fun s1 =>
      zCT zZM zmX10_one [.ref 0, .ref 1, .int (2 : Int32), .int (s1.1 1 13)] s1 (zQv (fun s2 =>
        K182 (0 : Int32) s2)) QX)) QX) ∧ (¬ (σ.1 1 4) ≤ x2 →
    vp_in x2 64 ∧
    ((((σ.1 1 2).toInt64) ≤ (σ.2 31 x2.toNatClampNeg) →
      vp_in x2 64 ∧
      zCT zZM zmX10_must [.ref 0, .int (0 : Int32), .int (σ.1 32 x2.toNatClampNeg)] σ (zQv (fun s3 =>
        K116 (x2 + 1) s3)) QX) ∧ (¬ ((σ.1 1 2).toInt64) ≤ (σ.2 31 x2.toNatClampNeg) →
      vp_in x2 64 ∧
      zCT zZM zmX10_must [.ref 0, .int (1 : Int32), .int (σ.1 32 x2.toNatClampNeg)] σ (zQv (fun s4 =>
        K116 (x2 + 1) s4)) QX))))
def PX10_means_77 (K10 : Int32 → zS → Prop) (K116 : Int32 → zS → Prop) (K182 : Int32 → zS → Prop) (K225 : Int32 → zS → Prop) (K315 : Int32 → zS → Prop) (K381 : Int32 → Int32 → zS → Prop) (K435 : Int32 → zS → Prop) (K497 : Int32 → zS → Prop) (Q : Option Value → zS → Prop) (QX : zS → Prop) (x2 : Int32) (σ : zS) : Prop :=
  vp_in x2 32 ∧
  vp_in x2 32 ∧
  vp_in x2 32 ∧
  zCT zZM zmX10_areRight [.int (σ.1 24 x2.toNatClampNeg), .long (σ.2 29 x2.toNatClampNeg), .long (σ.2 30 x2.toNatClampNeg)] σ (zQi (fun r2 s1 =>
    vp_in x2 32 ∧
    zCT zZM zmX10_must [.ref 0, .int r2, .int (s1.1 26 x2.toNatClampNeg)] s1 (zQv (fun s3 =>
      K10 (x2 + 1) s3)) QX)) QX
def PX10_means_57 (K10 : Int32 → zS → Prop) (K116 : Int32 → zS → Prop) (K182 : Int32 → zS → Prop) (K225 : Int32 → zS → Prop) (K315 : Int32 → zS → Prop) (K381 : Int32 → Int32 → zS → Prop) (K435 : Int32 → zS → Prop) (K497 : Int32 → zS → Prop) (Q : Option Value → zS → Prop) (QX : zS → Prop) (x2 : Int32) (σ : zS) : Prop :=
  vp_in x2 32 ∧
  (((σ.1 24 x2.toNatClampNeg) = (1 : Int32) →
    PX10_means_77 K10 K116 K182 K225 K315 K381 K435 K497 Q QX x2 σ) ∧ (¬ (σ.1 24 x2.toNatClampNeg) = (1 : Int32) →
    vp_in x2 32 ∧
    (((σ.1 24 x2.toNatClampNeg) = (2 : Int32) →
      PX10_means_77 K10 K116 K182 K225 K315 K381 K435 K497 Q QX x2 σ) ∧ (¬ (σ.1 24 x2.toNatClampNeg) = (2 : Int32) →
      K10 (x2 + 1) σ))))
def PX10_means_10 (K10 : Int32 → zS → Prop) (K116 : Int32 → zS → Prop) (K182 : Int32 → zS → Prop) (K225 : Int32 → zS → Prop) (K315 : Int32 → zS → Prop) (K381 : Int32 → Int32 → zS → Prop) (K435 : Int32 → zS → Prop) (K497 : Int32 → zS → Prop) (Q : Option Value → zS → Prop) (QX : zS → Prop) (x2 : Int32) (σ : zS) : Prop :=
  (((σ.1 1 3) ≤ x2 →
    K116 (0 : Int32) σ) ∧ (¬ (σ.1 1 3) ≤ x2 →
    vp_in x2 32 ∧
    (((σ.1 24 x2.toNatClampNeg) = 0 →
      vp_in x2 32 ∧
      ((((σ.1 1 2).toInt64) ≤ (σ.2 25 x2.toNatClampNeg) →
        vp_in x2 32 ∧
        zCT zZM zmX10_must [.ref 0, .int (0 : Int32), .int (σ.1 26 x2.toNatClampNeg)] σ (zQv (fun s1 =>
          PX10_means_57 K10 K116 K182 K225 K315 K381 K435 K497 Q QX x2 s1)) QX) ∧ (¬ ((σ.1 1 2).toInt64) ≤ (σ.2 25 x2.toNatClampNeg) →
        vp_in x2 32 ∧
        zCT zZM zmX10_must [.ref 0, .int (1 : Int32), .int (σ.1 26 x2.toNatClampNeg)] σ (zQv (fun s2 =>
          PX10_means_57 K10 K116 K182 K225 K315 K381 K435 K497 Q QX x2 s2)) QX))) ∧ (¬ (σ.1 24 x2.toNatClampNeg) = 0 →
      PX10_means_57 K10 K116 K182 K225 K315 K381 K435 K497 Q QX x2 σ))))
def PX10_means_0 (K10 : Int32 → zS → Prop) (K116 : Int32 → zS → Prop) (K182 : Int32 → zS → Prop) (K225 : Int32 → zS → Prop) (K315 : Int32 → zS → Prop) (K381 : Int32 → Int32 → zS → Prop) (K435 : Int32 → zS → Prop) (K497 : Int32 → zS → Prop) (Q : Option Value → zS → Prop) (QX : zS → Prop)  (σ : zS) : Prop :=
  ∀ s1 : zS, s1 = zsI σ 0 13 (σ.1 1 1) →
  K10 (0 : Int32) s1
def LIX10_means (I10 : Nat → Int32 → zS → Prop) (I116 : Nat → Int32 → zS → Prop) (I182 : Nat → Int32 → zS → Prop) (I225 : Nat → Int32 → zS → Prop) (I315 : Nat → Int32 → zS → Prop) (I381 : Nat → Int32 → Int32 → zS → Prop) (I435 : Nat → Int32 → zS → Prop) (I497 : Nat → Int32 → zS → Prop) : Nat → Nat → zLo → zS → Prop := fun t n l τ => bif Nat.beq t 10 then zdR 0 0 (zdR 1 1 (zdI 2 (fun x2 => zdN (I10 n x2 τ)))) l else bif Nat.beq t 116 then zdR 0 0 (zdR 1 1 (zdI 2 (fun x2 => zdN (I116 n x2 τ)))) l else bif Nat.beq t 182 then zdR 0 0 (zdR 1 1 (zdI 2 (fun x2 => zdN (I182 n x2 τ)))) l else bif Nat.beq t 225 then zdR 0 0 (zdR 1 1 (zdI 2 (fun x2 => zdN (I225 n x2 τ)))) l else bif Nat.beq t 315 then zdR 0 0 (zdR 1 1 (zdI 2 (fun x2 => zdN (I315 n x2 τ)))) l else bif Nat.beq t 381 then zdR 0 0 (zdR 1 1 (zdI 2 (fun x2 => zdI 3 (fun x3 => zdN (I381 n x2 x3 τ))))) l else bif Nat.beq t 435 then zdR 0 0 (zdR 1 1 (zdI 2 (fun x2 => zdN (I435 n x2 τ)))) l else bif Nat.beq t 497 then zdR 0 0 (zdR 1 1 (zdI 2 (fun x2 => zdN (I497 n x2 τ)))) l else False
def JIX10_means (I10 : Nat → Int32 → zS → Prop) (I116 : Nat → Int32 → zS → Prop) (I182 : Nat → Int32 → zS → Prop) (I225 : Nat → Int32 → zS → Prop) (I315 : Nat → Int32 → zS → Prop) (I381 : Nat → Int32 → Int32 → zS → Prop) (I435 : Nat → Int32 → zS → Prop) (I497 : Nat → Int32 → zS → Prop) (Q : Option Value → zS → Prop) (QX : zS → Prop) : Nat → Option Nat → zLo → zS → Prop := fun t n l τ => bif Nat.beq t 57 then zdR 0 0 (zdR 1 1 (zdI 2 (fun x2 => zdN (PX10_means_57 (fun y2 τ => ∃ n', zlt n' n ∧ I10 n' y2 τ) (fun y2 τ => ∃ n', zlt n' n ∧ I116 n' y2 τ) (fun y2 τ => ∃ n', zlt n' n ∧ I182 n' y2 τ) (fun y2 τ => ∃ n', zlt n' n ∧ I225 n' y2 τ) (fun y2 τ => ∃ n', zlt n' n ∧ I315 n' y2 τ) (fun y2 y3 τ => ∃ n', zlt n' n ∧ I381 n' y2 y3 τ) (fun y2 τ => ∃ n', zlt n' n ∧ I435 n' y2 τ) (fun y2 τ => ∃ n', zlt n' n ∧ I497 n' y2 τ) Q QX x2 τ)))) l else bif Nat.beq t 77 then zdR 0 0 (zdR 1 1 (zdI 2 (fun x2 => zdN (PX10_means_77 (fun y2 τ => ∃ n', zlt n' n ∧ I10 n' y2 τ) (fun y2 τ => ∃ n', zlt n' n ∧ I116 n' y2 τ) (fun y2 τ => ∃ n', zlt n' n ∧ I182 n' y2 τ) (fun y2 τ => ∃ n', zlt n' n ∧ I225 n' y2 τ) (fun y2 τ => ∃ n', zlt n' n ∧ I315 n' y2 τ) (fun y2 y3 τ => ∃ n', zlt n' n ∧ I381 n' y2 y3 τ) (fun y2 τ => ∃ n', zlt n' n ∧ I435 n' y2 τ) (fun y2 τ => ∃ n', zlt n' n ∧ I497 n' y2 τ) Q QX x2 τ)))) l else False
set_option maxRecDepth 50000 in
theorem pX10_means_0 (I10 : Nat → Int32 → zS → Prop) (I116 : Nat → Int32 → zS → Prop) (I182 : Nat → Int32 → zS → Prop) (I225 : Nat → Int32 → zS → Prop) (I315 : Nat → Int32 → zS → Prop) (I381 : Nat → Int32 → Int32 → zS → Prop) (I435 : Nat → Int32 → zS → Prop) (I497 : Nat → Int32 → zS → Prop) (Q : Option Value → zS → Prop) (QX : zS → Prop)   (σ : zS) (h : PX10_means_0 (fun y2 τ => ∃ n', zlt n' none ∧ I10 n' y2 τ) (fun y2 τ => ∃ n', zlt n' none ∧ I116 n' y2 τ) (fun y2 τ => ∃ n', zlt n' none ∧ I182 n' y2 τ) (fun y2 τ => ∃ n', zlt n' none ∧ I225 n' y2 τ) (fun y2 τ => ∃ n', zlt n' none ∧ I315 n' y2 τ) (fun y2 y3 τ => ∃ n', zlt n' none ∧ I381 n' y2 y3 τ) (fun y2 τ => ∃ n', zlt n' none ∧ I435 n' y2 τ) (fun y2 τ => ∃ n', zlt n' none ∧ I497 n' y2 τ) Q QX  σ) : zwp JX10_means (zB hX10_means (zKt jnX10_means (JIX10_means I10 I116 I182 I225 I315 I381 I435 I497 Q QX) (LIX10_means I10 I116 I182 I225 I315 I381 I435 I497) none 0)) Q QX kX10_means 0 (lv_args 0 [.ref 0, .ref 1]) [] σ := h
set_option maxRecDepth 50000 in
theorem pX10_means_10 (I10 : Nat → Int32 → zS → Prop) (I116 : Nat → Int32 → zS → Prop) (I182 : Nat → Int32 → zS → Prop) (I225 : Nat → Int32 → zS → Prop) (I315 : Nat → Int32 → zS → Prop) (I381 : Nat → Int32 → Int32 → zS → Prop) (I435 : Nat → Int32 → zS → Prop) (I497 : Nat → Int32 → zS → Prop) (Q : Option Value → zS → Prop) (QX : zS → Prop) (m : Nat) (x2 : Int32) (σ : zS) (h : PX10_means_10 (fun y2 τ => ∃ n', zlt n' (some m) ∧ I10 n' y2 τ) (fun y2 τ => ∃ n', zlt n' (some m) ∧ I116 n' y2 τ) (fun y2 τ => ∃ n', zlt n' (some m) ∧ I182 n' y2 τ) (fun y2 τ => ∃ n', zlt n' (some m) ∧ I225 n' y2 τ) (fun y2 τ => ∃ n', zlt n' (some m) ∧ I315 n' y2 τ) (fun y2 y3 τ => ∃ n', zlt n' (some m) ∧ I381 n' y2 y3 τ) (fun y2 τ => ∃ n', zlt n' (some m) ∧ I435 n' y2 τ) (fun y2 τ => ∃ n', zlt n' (some m) ∧ I497 n' y2 τ) Q QX x2 σ) : zwp JX10_means (zB hX10_means (zKt jnX10_means (JIX10_means I10 I116 I182 I225 I315 I381 I435 I497 Q QX) (LIX10_means I10 I116 I182 I225 I315 I381 I435 I497) (some m) 10)) Q QX kX10_means 10 [(0, .ref 0), (1, .ref 1), (2, .int x2)] [] σ := h
set_option maxRecDepth 50000 in
theorem pX10_means_57 (I10 : Nat → Int32 → zS → Prop) (I116 : Nat → Int32 → zS → Prop) (I182 : Nat → Int32 → zS → Prop) (I225 : Nat → Int32 → zS → Prop) (I315 : Nat → Int32 → zS → Prop) (I381 : Nat → Int32 → Int32 → zS → Prop) (I435 : Nat → Int32 → zS → Prop) (I497 : Nat → Int32 → zS → Prop) (Q : Option Value → zS → Prop) (QX : zS → Prop) (n : Option Nat) (x2 : Int32) (σ : zS) (h : PX10_means_57 (fun y2 τ => ∃ n', zlt n' n ∧ I10 n' y2 τ) (fun y2 τ => ∃ n', zlt n' n ∧ I116 n' y2 τ) (fun y2 τ => ∃ n', zlt n' n ∧ I182 n' y2 τ) (fun y2 τ => ∃ n', zlt n' n ∧ I225 n' y2 τ) (fun y2 τ => ∃ n', zlt n' n ∧ I315 n' y2 τ) (fun y2 y3 τ => ∃ n', zlt n' n ∧ I381 n' y2 y3 τ) (fun y2 τ => ∃ n', zlt n' n ∧ I435 n' y2 τ) (fun y2 τ => ∃ n', zlt n' n ∧ I497 n' y2 τ) Q QX x2 σ) : zwp JX10_means (zB hX10_means (zKt jnX10_means (JIX10_means I10 I116 I182 I225 I315 I381 I435 I497 Q QX) (LIX10_means I10 I116 I182 I225 I315 I381 I435 I497) n 57)) Q QX kX10_means 57 [(0, .ref 0), (1, .ref 1), (2, .int x2)] [] σ := h
set_option maxRecDepth 50000 in
theorem pX10_means_77 (I10 : Nat → Int32 → zS → Prop) (I116 : Nat → Int32 → zS → Prop) (I182 : Nat → Int32 → zS → Prop) (I225 : Nat → Int32 → zS → Prop) (I315 : Nat → Int32 → zS → Prop) (I381 : Nat → Int32 → Int32 → zS → Prop) (I435 : Nat → Int32 → zS → Prop) (I497 : Nat → Int32 → zS → Prop) (Q : Option Value → zS → Prop) (QX : zS → Prop) (n : Option Nat) (x2 : Int32) (σ : zS) (h : PX10_means_77 (fun y2 τ => ∃ n', zlt n' n ∧ I10 n' y2 τ) (fun y2 τ => ∃ n', zlt n' n ∧ I116 n' y2 τ) (fun y2 τ => ∃ n', zlt n' n ∧ I182 n' y2 τ) (fun y2 τ => ∃ n', zlt n' n ∧ I225 n' y2 τ) (fun y2 τ => ∃ n', zlt n' n ∧ I315 n' y2 τ) (fun y2 y3 τ => ∃ n', zlt n' n ∧ I381 n' y2 y3 τ) (fun y2 τ => ∃ n', zlt n' n ∧ I435 n' y2 τ) (fun y2 τ => ∃ n', zlt n' n ∧ I497 n' y2 τ) Q QX x2 σ) : zwp JX10_means (zB hX10_means (zKt jnX10_means (JIX10_means I10 I116 I182 I225 I315 I381 I435 I497 Q QX) (LIX10_means I10 I116 I182 I225 I315 I381 I435 I497) n 77)) Q QX kX10_means 77 [(0, .ref 0), (1, .ref 1), (2, .int x2)] [] σ := h
set_option maxRecDepth 50000 in
theorem pX10_means_116 (I10 : Nat → Int32 → zS → Prop) (I116 : Nat → Int32 → zS → Prop) (I182 : Nat → Int32 → zS → Prop) (I225 : Nat → Int32 → zS → Prop) (I315 : Nat → Int32 → zS → Prop) (I381 : Nat → Int32 → Int32 → zS → Prop) (I435 : Nat → Int32 → zS → Prop) (I497 : Nat → Int32 → zS → Prop) (Q : Option Value → zS → Prop) (QX : zS → Prop) (m : Nat) (x2 : Int32) (σ : zS) (h : PX10_means_116 (fun y2 τ => ∃ n', zlt n' (some m) ∧ I10 n' y2 τ) (fun y2 τ => ∃ n', zlt n' (some m) ∧ I116 n' y2 τ) (fun y2 τ => ∃ n', zlt n' (some m) ∧ I182 n' y2 τ) (fun y2 τ => ∃ n', zlt n' (some m) ∧ I225 n' y2 τ) (fun y2 τ => ∃ n', zlt n' (some m) ∧ I315 n' y2 τ) (fun y2 y3 τ => ∃ n', zlt n' (some m) ∧ I381 n' y2 y3 τ) (fun y2 τ => ∃ n', zlt n' (some m) ∧ I435 n' y2 τ) (fun y2 τ => ∃ n', zlt n' (some m) ∧ I497 n' y2 τ) Q QX x2 σ) : zwp JX10_means (zB hX10_means (zKt jnX10_means (JIX10_means I10 I116 I182 I225 I315 I381 I435 I497 Q QX) (LIX10_means I10 I116 I182 I225 I315 I381 I435 I497) (some m) 116)) Q QX kX10_means 116 [(0, .ref 0), (1, .ref 1), (2, .int x2)] [] σ := h
set_option maxRecDepth 50000 in
theorem pX10_means_182 (I10 : Nat → Int32 → zS → Prop) (I116 : Nat → Int32 → zS → Prop) (I182 : Nat → Int32 → zS → Prop) (I225 : Nat → Int32 → zS → Prop) (I315 : Nat → Int32 → zS → Prop) (I381 : Nat → Int32 → Int32 → zS → Prop) (I435 : Nat → Int32 → zS → Prop) (I497 : Nat → Int32 → zS → Prop) (Q : Option Value → zS → Prop) (QX : zS → Prop) (m : Nat) (x2 : Int32) (σ : zS) (h : PX10_means_182 (fun y2 τ => ∃ n', zlt n' (some m) ∧ I10 n' y2 τ) (fun y2 τ => ∃ n', zlt n' (some m) ∧ I116 n' y2 τ) (fun y2 τ => ∃ n', zlt n' (some m) ∧ I182 n' y2 τ) (fun y2 τ => ∃ n', zlt n' (some m) ∧ I225 n' y2 τ) (fun y2 τ => ∃ n', zlt n' (some m) ∧ I315 n' y2 τ) (fun y2 y3 τ => ∃ n', zlt n' (some m) ∧ I381 n' y2 y3 τ) (fun y2 τ => ∃ n', zlt n' (some m) ∧ I435 n' y2 τ) (fun y2 τ => ∃ n', zlt n' (some m) ∧ I497 n' y2 τ) Q QX x2 σ) : zwp JX10_means (zB hX10_means (zKt jnX10_means (JIX10_means I10 I116 I182 I225 I315 I381 I435 I497 Q QX) (LIX10_means I10 I116 I182 I225 I315 I381 I435 I497) (some m) 182)) Q QX kX10_means 182 [(0, .ref 0), (1, .ref 1), (2, .int x2)] [] σ := h
set_option maxRecDepth 50000 in
theorem pX10_means_225 (I10 : Nat → Int32 → zS → Prop) (I116 : Nat → Int32 → zS → Prop) (I182 : Nat → Int32 → zS → Prop) (I225 : Nat → Int32 → zS → Prop) (I315 : Nat → Int32 → zS → Prop) (I381 : Nat → Int32 → Int32 → zS → Prop) (I435 : Nat → Int32 → zS → Prop) (I497 : Nat → Int32 → zS → Prop) (Q : Option Value → zS → Prop) (QX : zS → Prop) (m : Nat) (x2 : Int32) (σ : zS) (h : PX10_means_225 (fun y2 τ => ∃ n', zlt n' (some m) ∧ I10 n' y2 τ) (fun y2 τ => ∃ n', zlt n' (some m) ∧ I116 n' y2 τ) (fun y2 τ => ∃ n', zlt n' (some m) ∧ I182 n' y2 τ) (fun y2 τ => ∃ n', zlt n' (some m) ∧ I225 n' y2 τ) (fun y2 τ => ∃ n', zlt n' (some m) ∧ I315 n' y2 τ) (fun y2 y3 τ => ∃ n', zlt n' (some m) ∧ I381 n' y2 y3 τ) (fun y2 τ => ∃ n', zlt n' (some m) ∧ I435 n' y2 τ) (fun y2 τ => ∃ n', zlt n' (some m) ∧ I497 n' y2 τ) Q QX x2 σ) : zwp JX10_means (zB hX10_means (zKt jnX10_means (JIX10_means I10 I116 I182 I225 I315 I381 I435 I497 Q QX) (LIX10_means I10 I116 I182 I225 I315 I381 I435 I497) (some m) 225)) Q QX kX10_means 225 [(0, .ref 0), (1, .ref 1), (2, .int x2)] [] σ := h
set_option maxRecDepth 50000 in
theorem pX10_means_315 (I10 : Nat → Int32 → zS → Prop) (I116 : Nat → Int32 → zS → Prop) (I182 : Nat → Int32 → zS → Prop) (I225 : Nat → Int32 → zS → Prop) (I315 : Nat → Int32 → zS → Prop) (I381 : Nat → Int32 → Int32 → zS → Prop) (I435 : Nat → Int32 → zS → Prop) (I497 : Nat → Int32 → zS → Prop) (Q : Option Value → zS → Prop) (QX : zS → Prop) (m : Nat) (x2 : Int32) (σ : zS) (h : PX10_means_315 (fun y2 τ => ∃ n', zlt n' (some m) ∧ I10 n' y2 τ) (fun y2 τ => ∃ n', zlt n' (some m) ∧ I116 n' y2 τ) (fun y2 τ => ∃ n', zlt n' (some m) ∧ I182 n' y2 τ) (fun y2 τ => ∃ n', zlt n' (some m) ∧ I225 n' y2 τ) (fun y2 τ => ∃ n', zlt n' (some m) ∧ I315 n' y2 τ) (fun y2 y3 τ => ∃ n', zlt n' (some m) ∧ I381 n' y2 y3 τ) (fun y2 τ => ∃ n', zlt n' (some m) ∧ I435 n' y2 τ) (fun y2 τ => ∃ n', zlt n' (some m) ∧ I497 n' y2 τ) Q QX x2 σ) : zwp JX10_means (zB hX10_means (zKt jnX10_means (JIX10_means I10 I116 I182 I225 I315 I381 I435 I497 Q QX) (LIX10_means I10 I116 I182 I225 I315 I381 I435 I497) (some m) 315)) Q QX kX10_means 315 [(0, .ref 0), (1, .ref 1), (2, .int x2)] [] σ := h
set_option maxRecDepth 50000 in
theorem pX10_means_381 (I10 : Nat → Int32 → zS → Prop) (I116 : Nat → Int32 → zS → Prop) (I182 : Nat → Int32 → zS → Prop) (I225 : Nat → Int32 → zS → Prop) (I315 : Nat → Int32 → zS → Prop) (I381 : Nat → Int32 → Int32 → zS → Prop) (I435 : Nat → Int32 → zS → Prop) (I497 : Nat → Int32 → zS → Prop) (Q : Option Value → zS → Prop) (QX : zS → Prop) (m : Nat) (x2 : Int32) (x3 : Int32) (σ : zS) (h : PX10_means_381 (fun y2 τ => ∃ n', zlt n' (some m) ∧ I10 n' y2 τ) (fun y2 τ => ∃ n', zlt n' (some m) ∧ I116 n' y2 τ) (fun y2 τ => ∃ n', zlt n' (some m) ∧ I182 n' y2 τ) (fun y2 τ => ∃ n', zlt n' (some m) ∧ I225 n' y2 τ) (fun y2 τ => ∃ n', zlt n' (some m) ∧ I315 n' y2 τ) (fun y2 y3 τ => ∃ n', zlt n' (some m) ∧ I381 n' y2 y3 τ) (fun y2 τ => ∃ n', zlt n' (some m) ∧ I435 n' y2 τ) (fun y2 τ => ∃ n', zlt n' (some m) ∧ I497 n' y2 τ) Q QX x2 x3 σ) : zwp JX10_means (zB hX10_means (zKt jnX10_means (JIX10_means I10 I116 I182 I225 I315 I381 I435 I497 Q QX) (LIX10_means I10 I116 I182 I225 I315 I381 I435 I497) (some m) 381)) Q QX kX10_means 381 [(0, .ref 0), (1, .ref 1), (2, .int x2), (3, .int x3)] [] σ := h
set_option maxRecDepth 50000 in
theorem pX10_means_435 (I10 : Nat → Int32 → zS → Prop) (I116 : Nat → Int32 → zS → Prop) (I182 : Nat → Int32 → zS → Prop) (I225 : Nat → Int32 → zS → Prop) (I315 : Nat → Int32 → zS → Prop) (I381 : Nat → Int32 → Int32 → zS → Prop) (I435 : Nat → Int32 → zS → Prop) (I497 : Nat → Int32 → zS → Prop) (Q : Option Value → zS → Prop) (QX : zS → Prop) (m : Nat) (x2 : Int32) (σ : zS) (h : PX10_means_435 (fun y2 τ => ∃ n', zlt n' (some m) ∧ I10 n' y2 τ) (fun y2 τ => ∃ n', zlt n' (some m) ∧ I116 n' y2 τ) (fun y2 τ => ∃ n', zlt n' (some m) ∧ I182 n' y2 τ) (fun y2 τ => ∃ n', zlt n' (some m) ∧ I225 n' y2 τ) (fun y2 τ => ∃ n', zlt n' (some m) ∧ I315 n' y2 τ) (fun y2 y3 τ => ∃ n', zlt n' (some m) ∧ I381 n' y2 y3 τ) (fun y2 τ => ∃ n', zlt n' (some m) ∧ I435 n' y2 τ) (fun y2 τ => ∃ n', zlt n' (some m) ∧ I497 n' y2 τ) Q QX x2 σ) : zwp JX10_means (zB hX10_means (zKt jnX10_means (JIX10_means I10 I116 I182 I225 I315 I381 I435 I497 Q QX) (LIX10_means I10 I116 I182 I225 I315 I381 I435 I497) (some m) 435)) Q QX kX10_means 435 [(0, .ref 0), (1, .ref 1), (2, .int x2)] [] σ := h
set_option maxRecDepth 50000 in
theorem pX10_means_497 (I10 : Nat → Int32 → zS → Prop) (I116 : Nat → Int32 → zS → Prop) (I182 : Nat → Int32 → zS → Prop) (I225 : Nat → Int32 → zS → Prop) (I315 : Nat → Int32 → zS → Prop) (I381 : Nat → Int32 → Int32 → zS → Prop) (I435 : Nat → Int32 → zS → Prop) (I497 : Nat → Int32 → zS → Prop) (Q : Option Value → zS → Prop) (QX : zS → Prop) (m : Nat) (x2 : Int32) (σ : zS) (h : PX10_means_497 (fun y2 τ => ∃ n', zlt n' (some m) ∧ I10 n' y2 τ) (fun y2 τ => ∃ n', zlt n' (some m) ∧ I116 n' y2 τ) (fun y2 τ => ∃ n', zlt n' (some m) ∧ I182 n' y2 τ) (fun y2 τ => ∃ n', zlt n' (some m) ∧ I225 n' y2 τ) (fun y2 τ => ∃ n', zlt n' (some m) ∧ I315 n' y2 τ) (fun y2 y3 τ => ∃ n', zlt n' (some m) ∧ I381 n' y2 y3 τ) (fun y2 τ => ∃ n', zlt n' (some m) ∧ I435 n' y2 τ) (fun y2 τ => ∃ n', zlt n' (some m) ∧ I497 n' y2 τ) Q QX x2 σ) : zwp JX10_means (zB hX10_means (zKt jnX10_means (JIX10_means I10 I116 I182 I225 I315 I381 I435 I497 Q QX) (LIX10_means I10 I116 I182 I225 I315 I381 I435 I497) (some m) 497)) Q QX kX10_means 497 [(0, .ref 0), (1, .ref 1), (2, .int x2)] [] σ := h
set_option maxRecDepth 50000 in
theorem rX10_means {Q : Option Value → zS → Prop} {QX : zS → Prop}  {σ : zS} (I10 : Nat → Int32 → zS → Prop) (I116 : Nat → Int32 → zS → Prop) (I182 : Nat → Int32 → zS → Prop) (I225 : Nat → Int32 → zS → Prop) (I315 : Nat → Int32 → zS → Prop) (I381 : Nat → Int32 → Int32 → zS → Prop) (I435 : Nat → Int32 → zS → Prop) (I497 : Nat → Int32 → zS → Prop) (hs10 : ∀ (m : Nat) (x2 : Int32) (σ : zS), I10 m x2 σ → PX10_means_10 (fun y2 τ => ∃ n', zlt n' (some m) ∧ I10 n' y2 τ) (fun y2 τ => ∃ n', zlt n' (some m) ∧ I116 n' y2 τ) (fun y2 τ => ∃ n', zlt n' (some m) ∧ I182 n' y2 τ) (fun y2 τ => ∃ n', zlt n' (some m) ∧ I225 n' y2 τ) (fun y2 τ => ∃ n', zlt n' (some m) ∧ I315 n' y2 τ) (fun y2 y3 τ => ∃ n', zlt n' (some m) ∧ I381 n' y2 y3 τ) (fun y2 τ => ∃ n', zlt n' (some m) ∧ I435 n' y2 τ) (fun y2 τ => ∃ n', zlt n' (some m) ∧ I497 n' y2 τ) Q QX x2 σ) (hs116 : ∀ (m : Nat) (x2 : Int32) (σ : zS), I116 m x2 σ → PX10_means_116 (fun y2 τ => ∃ n', zlt n' (some m) ∧ I10 n' y2 τ) (fun y2 τ => ∃ n', zlt n' (some m) ∧ I116 n' y2 τ) (fun y2 τ => ∃ n', zlt n' (some m) ∧ I182 n' y2 τ) (fun y2 τ => ∃ n', zlt n' (some m) ∧ I225 n' y2 τ) (fun y2 τ => ∃ n', zlt n' (some m) ∧ I315 n' y2 τ) (fun y2 y3 τ => ∃ n', zlt n' (some m) ∧ I381 n' y2 y3 τ) (fun y2 τ => ∃ n', zlt n' (some m) ∧ I435 n' y2 τ) (fun y2 τ => ∃ n', zlt n' (some m) ∧ I497 n' y2 τ) Q QX x2 σ) (hs182 : ∀ (m : Nat) (x2 : Int32) (σ : zS), I182 m x2 σ → PX10_means_182 (fun y2 τ => ∃ n', zlt n' (some m) ∧ I10 n' y2 τ) (fun y2 τ => ∃ n', zlt n' (some m) ∧ I116 n' y2 τ) (fun y2 τ => ∃ n', zlt n' (some m) ∧ I182 n' y2 τ) (fun y2 τ => ∃ n', zlt n' (some m) ∧ I225 n' y2 τ) (fun y2 τ => ∃ n', zlt n' (some m) ∧ I315 n' y2 τ) (fun y2 y3 τ => ∃ n', zlt n' (some m) ∧ I381 n' y2 y3 τ) (fun y2 τ => ∃ n', zlt n' (some m) ∧ I435 n' y2 τ) (fun y2 τ => ∃ n', zlt n' (some m) ∧ I497 n' y2 τ) Q QX x2 σ) (hs225 : ∀ (m : Nat) (x2 : Int32) (σ : zS), I225 m x2 σ → PX10_means_225 (fun y2 τ => ∃ n', zlt n' (some m) ∧ I10 n' y2 τ) (fun y2 τ => ∃ n', zlt n' (some m) ∧ I116 n' y2 τ) (fun y2 τ => ∃ n', zlt n' (some m) ∧ I182 n' y2 τ) (fun y2 τ => ∃ n', zlt n' (some m) ∧ I225 n' y2 τ) (fun y2 τ => ∃ n', zlt n' (some m) ∧ I315 n' y2 τ) (fun y2 y3 τ => ∃ n', zlt n' (some m) ∧ I381 n' y2 y3 τ) (fun y2 τ => ∃ n', zlt n' (some m) ∧ I435 n' y2 τ) (fun y2 τ => ∃ n', zlt n' (some m) ∧ I497 n' y2 τ) Q QX x2 σ) (hs315 : ∀ (m : Nat) (x2 : Int32) (σ : zS), I315 m x2 σ → PX10_means_315 (fun y2 τ => ∃ n', zlt n' (some m) ∧ I10 n' y2 τ) (fun y2 τ => ∃ n', zlt n' (some m) ∧ I116 n' y2 τ) (fun y2 τ => ∃ n', zlt n' (some m) ∧ I182 n' y2 τ) (fun y2 τ => ∃ n', zlt n' (some m) ∧ I225 n' y2 τ) (fun y2 τ => ∃ n', zlt n' (some m) ∧ I315 n' y2 τ) (fun y2 y3 τ => ∃ n', zlt n' (some m) ∧ I381 n' y2 y3 τ) (fun y2 τ => ∃ n', zlt n' (some m) ∧ I435 n' y2 τ) (fun y2 τ => ∃ n', zlt n' (some m) ∧ I497 n' y2 τ) Q QX x2 σ) (hs381 : ∀ (m : Nat) (x2 : Int32) (x3 : Int32) (σ : zS), I381 m x2 x3 σ → PX10_means_381 (fun y2 τ => ∃ n', zlt n' (some m) ∧ I10 n' y2 τ) (fun y2 τ => ∃ n', zlt n' (some m) ∧ I116 n' y2 τ) (fun y2 τ => ∃ n', zlt n' (some m) ∧ I182 n' y2 τ) (fun y2 τ => ∃ n', zlt n' (some m) ∧ I225 n' y2 τ) (fun y2 τ => ∃ n', zlt n' (some m) ∧ I315 n' y2 τ) (fun y2 y3 τ => ∃ n', zlt n' (some m) ∧ I381 n' y2 y3 τ) (fun y2 τ => ∃ n', zlt n' (some m) ∧ I435 n' y2 τ) (fun y2 τ => ∃ n', zlt n' (some m) ∧ I497 n' y2 τ) Q QX x2 x3 σ) (hs435 : ∀ (m : Nat) (x2 : Int32) (σ : zS), I435 m x2 σ → PX10_means_435 (fun y2 τ => ∃ n', zlt n' (some m) ∧ I10 n' y2 τ) (fun y2 τ => ∃ n', zlt n' (some m) ∧ I116 n' y2 τ) (fun y2 τ => ∃ n', zlt n' (some m) ∧ I182 n' y2 τ) (fun y2 τ => ∃ n', zlt n' (some m) ∧ I225 n' y2 τ) (fun y2 τ => ∃ n', zlt n' (some m) ∧ I315 n' y2 τ) (fun y2 y3 τ => ∃ n', zlt n' (some m) ∧ I381 n' y2 y3 τ) (fun y2 τ => ∃ n', zlt n' (some m) ∧ I435 n' y2 τ) (fun y2 τ => ∃ n', zlt n' (some m) ∧ I497 n' y2 τ) Q QX x2 σ) (hs497 : ∀ (m : Nat) (x2 : Int32) (σ : zS), I497 m x2 σ → PX10_means_497 (fun y2 τ => ∃ n', zlt n' (some m) ∧ I10 n' y2 τ) (fun y2 τ => ∃ n', zlt n' (some m) ∧ I116 n' y2 τ) (fun y2 τ => ∃ n', zlt n' (some m) ∧ I182 n' y2 τ) (fun y2 τ => ∃ n', zlt n' (some m) ∧ I225 n' y2 τ) (fun y2 τ => ∃ n', zlt n' (some m) ∧ I315 n' y2 τ) (fun y2 y3 τ => ∃ n', zlt n' (some m) ∧ I381 n' y2 y3 τ) (fun y2 τ => ∃ n', zlt n' (some m) ∧ I435 n' y2 τ) (fun y2 τ => ∃ n', zlt n' (some m) ∧ I497 n' y2 τ) Q QX x2 σ) (h0 : PX10_means_0 (fun y2 τ => ∃ n', zlt n' none ∧ I10 n' y2 τ) (fun y2 τ => ∃ n', zlt n' none ∧ I116 n' y2 τ) (fun y2 τ => ∃ n', zlt n' none ∧ I182 n' y2 τ) (fun y2 τ => ∃ n', zlt n' none ∧ I225 n' y2 τ) (fun y2 τ => ∃ n', zlt n' none ∧ I315 n' y2 τ) (fun y2 y3 τ => ∃ n', zlt n' none ∧ I381 n' y2 y3 τ) (fun y2 τ => ∃ n', zlt n' none ∧ I435 n' y2 τ) (fun y2 τ => ∃ n', zlt n' none ∧ I497 n' y2 τ) Q QX  σ) : zCT zZM zmX10_means [.ref 0, .ref 1] σ Q QX := by
  refine zCT_of zZM_ok pnX10 (Nat.le_of_ble_eq_true rfl) kX10_means ksX10_means JX10_means 498 (fun t ht => ?_) hX10_means jnX10_means (JIX10_means I10 I116 I182 I225 I315 I381 I435 I497 Q QX) (LIX10_means I10 I116 I182 I225 I315 I381 I435 I497) (fun n t ln σ' ht hj hI => ?_) (fun m t ln σ' ht hj hI => ?_) (pX10_means_0 I10 I116 I182 I225 I315 I381 I435 I497 Q QX  σ h0)
  · refine zor ht (fun ht => ?_) (fun ht => ?_)
    · skip
      refine zor ht (fun ht => ?_) (fun ht => ?_)
      · skip
        refine zor ht (fun ht => ?_) (fun ht => ?_)
        · skip
          refine zor ht (fun ht => ?_) (fun ht => ?_)
          · skip
            refine zor ht (fun ht => ?_) (fun ht => ?_)
            · skip
              refine zor ht (fun ht => ?_) (fun ht => ?_)
              · skip
                refine zor ht (fun ht => ?_) (fun ht => ?_)
                · skip
                  refine zor ht (fun ht => ?_) (fun ht => ?_)
                  · skip
                    refine zor ht (fun ht => ?_) (fun ht => ?_)
                    · skip
                      have et := Nat.eq_of_beq_eq_true ht; subst et
                      exact Nat.le_of_ble_eq_true rfl
                    · skip
                      have et := Nat.eq_of_beq_eq_true ht; subst et
                      exact Nat.le_of_ble_eq_true rfl
                  · skip
                    have et := Nat.eq_of_beq_eq_true ht; subst et
                    exact Nat.le_of_ble_eq_true rfl
                · skip
                  have et := Nat.eq_of_beq_eq_true ht; subst et
                  exact Nat.le_of_ble_eq_true rfl
              · skip
                have et := Nat.eq_of_beq_eq_true ht; subst et
                exact Nat.le_of_ble_eq_true rfl
            · skip
              have et := Nat.eq_of_beq_eq_true ht; subst et
              exact Nat.le_of_ble_eq_true rfl
          · skip
            have et := Nat.eq_of_beq_eq_true ht; subst et
            exact Nat.le_of_ble_eq_true rfl
        · skip
          have et := Nat.eq_of_beq_eq_true ht; subst et
          exact Nat.le_of_ble_eq_true rfl
      · skip
        have et := Nat.eq_of_beq_eq_true ht; subst et
        exact Nat.le_of_ble_eq_true rfl
    · skip
      have et := Nat.eq_of_beq_eq_true ht; subst et
      exact Nat.le_of_ble_eq_true rfl
  · refine zor ht (fun ht => ?_) (fun ht => ?_)
    · skip
      refine zor ht (fun ht => ?_) (fun ht => ?_)
      · skip
        refine zor ht (fun ht => ?_) (fun ht => ?_)
        · skip
          refine zor ht (fun ht => ?_) (fun ht => ?_)
          · skip
            refine zor ht (fun ht => ?_) (fun ht => ?_)
            · skip
              refine zor ht (fun ht => ?_) (fun ht => ?_)
              · skip
                refine zor ht (fun ht => ?_) (fun ht => ?_)
                · skip
                  refine zor ht (fun ht => ?_) (fun ht => ?_)
                  · skip
                    refine zor ht (fun ht => ?_) (fun ht => ?_)
                    · skip
                      have et := Nat.eq_of_beq_eq_true ht; subst et
                      cases hj
                    · skip
                      have et := Nat.eq_of_beq_eq_true ht; subst et
                      have hI : JIX10_means I10 I116 I182 I225 I315 I381 I435 I497 Q QX 57 n ln σ' := hI
                      obtain ⟨l0, e0, hI⟩ := zdR_e (i := 0) (q := 0) hI; subst e0
                      obtain ⟨l1, e1, hI⟩ := zdR_e (i := 1) (q := 1) hI; subst e1
                      obtain ⟨x2, l2, e2, hI⟩ := zdI_e (i := 2) hI; subst e2
                      obtain ⟨e, hI⟩ := zdN_e hI; subst e
                      exact pX10_means_57 I10 I116 I182 I225 I315 I381 I435 I497 Q QX n x2 σ' hI
                  · skip
                    have et := Nat.eq_of_beq_eq_true ht; subst et
                    have hI : JIX10_means I10 I116 I182 I225 I315 I381 I435 I497 Q QX 77 n ln σ' := hI
                    obtain ⟨l0, e0, hI⟩ := zdR_e (i := 0) (q := 0) hI; subst e0
                    obtain ⟨l1, e1, hI⟩ := zdR_e (i := 1) (q := 1) hI; subst e1
                    obtain ⟨x2, l2, e2, hI⟩ := zdI_e (i := 2) hI; subst e2
                    obtain ⟨e, hI⟩ := zdN_e hI; subst e
                    exact pX10_means_77 I10 I116 I182 I225 I315 I381 I435 I497 Q QX n x2 σ' hI
                · skip
                  have et := Nat.eq_of_beq_eq_true ht; subst et
                  cases hj
              · skip
                have et := Nat.eq_of_beq_eq_true ht; subst et
                cases hj
            · skip
              have et := Nat.eq_of_beq_eq_true ht; subst et
              cases hj
          · skip
            have et := Nat.eq_of_beq_eq_true ht; subst et
            cases hj
        · skip
          have et := Nat.eq_of_beq_eq_true ht; subst et
          cases hj
      · skip
        have et := Nat.eq_of_beq_eq_true ht; subst et
        cases hj
    · skip
      have et := Nat.eq_of_beq_eq_true ht; subst et
      cases hj
  · refine zor ht (fun ht => ?_) (fun ht => ?_)
    · skip
      refine zor ht (fun ht => ?_) (fun ht => ?_)
      · skip
        refine zor ht (fun ht => ?_) (fun ht => ?_)
        · skip
          refine zor ht (fun ht => ?_) (fun ht => ?_)
          · skip
            refine zor ht (fun ht => ?_) (fun ht => ?_)
            · skip
              refine zor ht (fun ht => ?_) (fun ht => ?_)
              · skip
                refine zor ht (fun ht => ?_) (fun ht => ?_)
                · skip
                  refine zor ht (fun ht => ?_) (fun ht => ?_)
                  · skip
                    refine zor ht (fun ht => ?_) (fun ht => ?_)
                    · skip
                      have et := Nat.eq_of_beq_eq_true ht; subst et
                      have hI : LIX10_means I10 I116 I182 I225 I315 I381 I435 I497 10 m ln σ' := hI
                      obtain ⟨l0, e0, hI⟩ := zdR_e (i := 0) (q := 0) hI; subst e0
                      obtain ⟨l1, e1, hI⟩ := zdR_e (i := 1) (q := 1) hI; subst e1
                      obtain ⟨x2, l2, e2, hI⟩ := zdI_e (i := 2) hI; subst e2
                      obtain ⟨e, hI⟩ := zdN_e hI; subst e
                      exact pX10_means_10 I10 I116 I182 I225 I315 I381 I435 I497 Q QX m x2 σ' (hs10 m x2 σ' hI)
                    · skip
                      have et := Nat.eq_of_beq_eq_true ht; subst et
                      cases hj
                  · skip
                    have et := Nat.eq_of_beq_eq_true ht; subst et
                    cases hj
                · skip
                  have et := Nat.eq_of_beq_eq_true ht; subst et
                  have hI : LIX10_means I10 I116 I182 I225 I315 I381 I435 I497 116 m ln σ' := hI
                  obtain ⟨l0, e0, hI⟩ := zdR_e (i := 0) (q := 0) hI; subst e0
                  obtain ⟨l1, e1, hI⟩ := zdR_e (i := 1) (q := 1) hI; subst e1
                  obtain ⟨x2, l2, e2, hI⟩ := zdI_e (i := 2) hI; subst e2
                  obtain ⟨e, hI⟩ := zdN_e hI; subst e
                  exact pX10_means_116 I10 I116 I182 I225 I315 I381 I435 I497 Q QX m x2 σ' (hs116 m x2 σ' hI)
              · skip
                have et := Nat.eq_of_beq_eq_true ht; subst et
                have hI : LIX10_means I10 I116 I182 I225 I315 I381 I435 I497 182 m ln σ' := hI
                obtain ⟨l0, e0, hI⟩ := zdR_e (i := 0) (q := 0) hI; subst e0
                obtain ⟨l1, e1, hI⟩ := zdR_e (i := 1) (q := 1) hI; subst e1
                obtain ⟨x2, l2, e2, hI⟩ := zdI_e (i := 2) hI; subst e2
                obtain ⟨e, hI⟩ := zdN_e hI; subst e
                exact pX10_means_182 I10 I116 I182 I225 I315 I381 I435 I497 Q QX m x2 σ' (hs182 m x2 σ' hI)
            · skip
              have et := Nat.eq_of_beq_eq_true ht; subst et
              have hI : LIX10_means I10 I116 I182 I225 I315 I381 I435 I497 225 m ln σ' := hI
              obtain ⟨l0, e0, hI⟩ := zdR_e (i := 0) (q := 0) hI; subst e0
              obtain ⟨l1, e1, hI⟩ := zdR_e (i := 1) (q := 1) hI; subst e1
              obtain ⟨x2, l2, e2, hI⟩ := zdI_e (i := 2) hI; subst e2
              obtain ⟨e, hI⟩ := zdN_e hI; subst e
              exact pX10_means_225 I10 I116 I182 I225 I315 I381 I435 I497 Q QX m x2 σ' (hs225 m x2 σ' hI)
          · skip
            have et := Nat.eq_of_beq_eq_true ht; subst et
            have hI : LIX10_means I10 I116 I182 I225 I315 I381 I435 I497 315 m ln σ' := hI
            obtain ⟨l0, e0, hI⟩ := zdR_e (i := 0) (q := 0) hI; subst e0
            obtain ⟨l1, e1, hI⟩ := zdR_e (i := 1) (q := 1) hI; subst e1
            obtain ⟨x2, l2, e2, hI⟩ := zdI_e (i := 2) hI; subst e2
            obtain ⟨e, hI⟩ := zdN_e hI; subst e
            exact pX10_means_315 I10 I116 I182 I225 I315 I381 I435 I497 Q QX m x2 σ' (hs315 m x2 σ' hI)
        · skip
          have et := Nat.eq_of_beq_eq_true ht; subst et
          have hI : LIX10_means I10 I116 I182 I225 I315 I381 I435 I497 381 m ln σ' := hI
          obtain ⟨l0, e0, hI⟩ := zdR_e (i := 0) (q := 0) hI; subst e0
          obtain ⟨l1, e1, hI⟩ := zdR_e (i := 1) (q := 1) hI; subst e1
          obtain ⟨x2, l2, e2, hI⟩ := zdI_e (i := 2) hI; subst e2
          obtain ⟨x3, l3, e3, hI⟩ := zdI_e (i := 3) hI; subst e3
          obtain ⟨e, hI⟩ := zdN_e hI; subst e
          exact pX10_means_381 I10 I116 I182 I225 I315 I381 I435 I497 Q QX m x2 x3 σ' (hs381 m x2 x3 σ' hI)
      · skip
        have et := Nat.eq_of_beq_eq_true ht; subst et
        have hI : LIX10_means I10 I116 I182 I225 I315 I381 I435 I497 435 m ln σ' := hI
        obtain ⟨l0, e0, hI⟩ := zdR_e (i := 0) (q := 0) hI; subst e0
        obtain ⟨l1, e1, hI⟩ := zdR_e (i := 1) (q := 1) hI; subst e1
        obtain ⟨x2, l2, e2, hI⟩ := zdI_e (i := 2) hI; subst e2
        obtain ⟨e, hI⟩ := zdN_e hI; subst e
        exact pX10_means_435 I10 I116 I182 I225 I315 I381 I435 I497 Q QX m x2 σ' (hs435 m x2 σ' hI)
    · skip
      have et := Nat.eq_of_beq_eq_true ht; subst et
      have hI : LIX10_means I10 I116 I182 I225 I315 I381 I435 I497 497 m ln σ' := hI
      obtain ⟨l0, e0, hI⟩ := zdR_e (i := 0) (q := 0) hI; subst e0
      obtain ⟨l1, e1, hI⟩ := zdR_e (i := 1) (q := 1) hI; subst e1
      obtain ⟨x2, l2, e2, hI⟩ := zdI_e (i := 2) hI; subst e2
      obtain ⟨e, hI⟩ := zdN_e hI; subst e
      exact pX10_means_497 I10 I116 I182 I225 I315 I381 I435 I497 Q QX m x2 σ' (hs497 m x2 σ' hI)
def JX10_section : Nat → Bool := fun t => Nat.beq t 60
def jnX10_section : Nat → Bool := fun t => false && Nat.beq t 0
def hX10_section : Nat → List Nat := fun t => bif Nat.beq t 60 then [0, 1, 2, 3, 5] else []
def PX10_section_60 (K60 : Int32 → Int64 → Int64 → zS → Prop) (Q : Option Value → zS → Prop) (QX : zS → Prop) (x2 : Int32) (x3 : Int64) (x5 : Int64) (σ : zS) : Prop :=
  ((x3 ≤ x5 →
    Q none σ) ∧ (¬ x3 ≤ x5 →
    ((x2 = 1 →
      zCT zZM zmX10_signature [.ref 0, .ref 1] σ (zQv (fun s1 =>
        K60 x2 x3 (x5 + (1 : Int64)) s1)) QX) ∧ (¬ x2 = 1 →
    ((x2 = 2 →
      zCT zZM zmX10_importLine [.ref 0, .ref 1] σ (zQv (fun s2 =>
        K60 x2 x3 (x5 + (1 : Int64)) s2)) QX) ∧ (¬ x2 = 2 →
    ((x2 = 3 →
      (((σ.1 1 4) = (64 : Int32) →
        zCT zZM zmX10_wrong [.ref 0, .int (4 : Int32), .int (σ.1 0 12)] σ (zQr (fun r4 s3 =>
          o_athrow zYM 2 Q QX (fun _ _ _ _ => False) [] [.ref r4] s3)) QX) ∧ (¬ (σ.1 1 4) = (64 : Int32) →
        vp_in (σ.1 1 4) 64 ∧ ∀ s5 : zS, s5 = zsI σ 32 (σ.1 1 4).toNatClampNeg (σ.1 0 12) →
        zCT zZM zmX10_u [.ref 0] s5 (zQl (fun r7 s6 =>
          vp_in (s5.1 1 4) 64 ∧ ∀ s8 : zS, s8 = zsL s6 31 (s5.1 1 4).toNatClampNeg r7 →
          ∀ s9 : zS, s9 = zsI s8 1 4 ((s8.1 1 4) + (1 : Int32)) →
          K60 x2 x3 (x5 + (1 : Int64)) s9)) QX))) ∧ (¬ x2 = 3 →
    ((x2 = 4 →
      zCT zZM zmX10_ownLimits [.ref 0, .ref 1, .int (1 : Int32)] σ (zQv (fun s10 =>
        K60 x2 x3 (x5 + (1 : Int64)) s10)) QX) ∧ (¬ x2 = 4 →
    ((x2 = 5 →
      zCT zZM zmX10_ownLimits [.ref 0, .ref 1, .int (2 : Int32)] σ (zQv (fun s11 =>
        K60 x2 x3 (x5 + (1 : Int64)) s11)) QX) ∧ (¬ x2 = 5 →
    ((x2 = 6 →
      zCT zZM zmX10_globalLine [.ref 0, .ref 1] σ (zQv (fun s12 =>
        K60 x2 x3 (x5 + (1 : Int64)) s12)) QX) ∧ (¬ x2 = 6 →
    ((x2 = 7 →
      zCT zZM zmX10_exportLine [.ref 0, .ref 1] σ (zQv (fun s13 =>
        K60 x2 x3 (x5 + (1 : Int64)) s13)) QX) ∧ (¬ x2 = 7 →
    ((x2 = 9 →
      zCT zZM zmX10_elementLine [.ref 0, .ref 1] σ (zQv (fun s14 =>
        K60 x2 x3 (x5 + (1 : Int64)) s14)) QX) ∧ (¬ x2 = 9 →
    ((x2 = 10 →
      zCT zZM zmX10_body [.ref 0, .ref 1] σ (zQv (fun s15 =>
        K60 x2 x3 (x5 + (1 : Int64)) s15)) QX) ∧ (¬ x2 = 10 →
      zCT zZM zmX10_dataLine [.ref 0, .ref 1] σ (zQv (fun s16 =>
        K60 x2 x3 (x5 + (1 : Int64)) s16)) QX))))))))))))))))))))
def PX10_section_0 (K60 : Int32 → Int64 → Int64 → zS → Prop) (Q : Option Value → zS → Prop) (QX : zS → Prop) (a1 : Int32) (σ : zS) : Prop :=
  ((a1 = (8 : Int32) →
    ∀ s1 : zS, s1 = zsI σ 1 11 (σ.1 0 12) →
    zCT zZM zmX10_u [.ref 0] s1 (zQl (fun r3 s2 =>
      ∀ s4 : zS, s4 = zsI s2 1 10 ((if (1000000 : Int64) < r3 then (1000000 : Int64) else r3).toInt32) →
      Q none s4)) QX) ∧ (¬ a1 = (8 : Int32) →
    ((a1 = (12 : Int32) →
      ((1 : Int32) = 0 ∨ (1 : Int32) = 1) ∧ ∀ s5 : zS, s5 = zsI σ 0 18 (1 : Int32) →
      zCT zZM zmX10_u [.ref 0] s5 (zQl (fun r7 s6 =>
        ∀ s8 : zS, s8 = zsL s6 0 19 r7 →
        Q none s8)) QX) ∧ (¬ a1 = (12 : Int32) →
      zCT zZM zmX10_u [.ref 0] σ (zQl (fun r10 s9 =>
        K60 a1 r10 (0 : Int64) s9)) QX))))
def LIX10_section (I60 : Nat → Int32 → Int64 → Int64 → zS → Prop) : Nat → Nat → zLo → zS → Prop := fun t n l τ => bif Nat.beq t 60 then zdR 0 0 (zdR 1 1 (zdI 2 (fun x2 => zdL 3 (fun x3 => zdL 5 (fun x5 => zdN (I60 n x2 x3 x5 τ)))))) l else False
def JIX10_section (I60 : Nat → Int32 → Int64 → Int64 → zS → Prop) (Q : Option Value → zS → Prop) (QX : zS → Prop) : Nat → Option Nat → zLo → zS → Prop := fun t n l τ => False
set_option maxRecDepth 50000 in
theorem pX10_section_0 (I60 : Nat → Int32 → Int64 → Int64 → zS → Prop) (Q : Option Value → zS → Prop) (QX : zS → Prop)  (a1 : Int32) (σ : zS) (h : PX10_section_0 (fun y2 y3 y5 τ => ∃ n', zlt n' none ∧ I60 n' y2 y3 y5 τ) Q QX a1 σ) : zwp JX10_section (zB hX10_section (zKt jnX10_section (JIX10_section I60 Q QX) (LIX10_section I60) none 0)) Q QX kX10_section 0 (lv_args 0 [.ref 0, .ref 1, .int a1]) [] σ := h
set_option maxRecDepth 50000 in
theorem pX10_section_60 (I60 : Nat → Int32 → Int64 → Int64 → zS → Prop) (Q : Option Value → zS → Prop) (QX : zS → Prop) (m : Nat) (x2 : Int32) (x3 : Int64) (x5 : Int64) (σ : zS) (h : PX10_section_60 (fun y2 y3 y5 τ => ∃ n', zlt n' (some m) ∧ I60 n' y2 y3 y5 τ) Q QX x2 x3 x5 σ) : zwp JX10_section (zB hX10_section (zKt jnX10_section (JIX10_section I60 Q QX) (LIX10_section I60) (some m) 60)) Q QX kX10_section 60 [(0, .ref 0), (1, .ref 1), (2, .int x2), (3, .long x3), (5, .long x5)] [] σ := h
set_option maxRecDepth 50000 in
theorem rX10_section {Q : Option Value → zS → Prop} {QX : zS → Prop} {a1 : Int32} {σ : zS} (I60 : Nat → Int32 → Int64 → Int64 → zS → Prop) (hs60 : ∀ (m : Nat) (x2 : Int32) (x3 : Int64) (x5 : Int64) (σ : zS), I60 m x2 x3 x5 σ → PX10_section_60 (fun y2 y3 y5 τ => ∃ n', zlt n' (some m) ∧ I60 n' y2 y3 y5 τ) Q QX x2 x3 x5 σ) (h0 : PX10_section_0 (fun y2 y3 y5 τ => ∃ n', zlt n' none ∧ I60 n' y2 y3 y5 τ) Q QX a1 σ) : zCT zZM zmX10_section [.ref 0, .ref 1, .int a1] σ Q QX := by
  refine zCT_of zZM_ok pnX10 (Nat.le_of_ble_eq_true rfl) kX10_section ksX10_section JX10_section 61 (fun t ht => ?_) hX10_section jnX10_section (JIX10_section I60 Q QX) (LIX10_section I60) (fun n t ln σ' ht hj hI => ?_) (fun m t ln σ' ht hj hI => ?_) (pX10_section_0 I60 Q QX a1 σ h0)
  · have et := Nat.eq_of_beq_eq_true ht; subst et
    exact Nat.le_of_ble_eq_true rfl
  · have et := Nat.eq_of_beq_eq_true ht; subst et
    cases hj
  · have et := Nat.eq_of_beq_eq_true ht; subst et
    have hI : LIX10_section I60 60 m ln σ' := hI
    obtain ⟨l0, e0, hI⟩ := zdR_e (i := 0) (q := 0) hI; subst e0
    obtain ⟨l1, e1, hI⟩ := zdR_e (i := 1) (q := 1) hI; subst e1
    obtain ⟨x2, l2, e2, hI⟩ := zdI_e (i := 2) hI; subst e2
    obtain ⟨x3, l3, e3, hI⟩ := zdL_e (i := 3) hI; subst e3
    obtain ⟨x5, l5, e5, hI⟩ := zdL_e (i := 5) hI; subst e5
    obtain ⟨e, hI⟩ := zdN_e hI; subst e
    exact pX10_section_60 I60 Q QX m x2 x3 x5 σ' (hs60 m x2 x3 x5 σ' hI)
def JX10_read : Nat → Bool := fun t => Nat.beq t 57 || Nat.beq t 103 || Nat.beq t 130 || Nat.beq t 188 || Nat.beq t 267 || Nat.beq t 306 || Nat.beq t 333 || Nat.beq t 343 || Nat.beq t 354 || Nat.beq t 401 || Nat.beq t 415
def jnX10_read : Nat → Bool := fun t => Nat.beq t 188 || Nat.beq t 267 || Nat.beq t 306 || Nat.beq t 333 || Nat.beq t 343 || Nat.beq t 354 || Nat.beq t 401 || Nat.beq t 415
def hX10_read : Nat → List Nat := fun t => bif Nat.beq t 57 then [0, 1, 2] else bif Nat.beq t 103 then [0, 1, 2] else bif Nat.beq t 130 then [0, 1, 2, 3, 4] else bif Nat.beq t 188 then [0, 1, 3, 4, 6, 7] else bif Nat.beq t 267 then [0, 1, 2, 3, 4, 6] else bif Nat.beq t 306 then [0, 1, 2, 3, 4, 6] else bif Nat.beq t 333 then [0] else bif Nat.beq t 343 then [0, 1, 2, 3, 4, 6] else bif Nat.beq t 354 then [0, 1, 2, 4, 6] else bif Nat.beq t 401 then [0, 4] else bif Nat.beq t 415 then [0] else []
def PX10_read_415 (K57 : Int32 → zS → Prop) (K103 : Int32 → zS → Prop) (K130 : Int32 → Int32 → Int32 → zS → Prop) (Q : Option Value → zS → Prop) (QX : zS → Prop)  (σ : zS) : Prop :=
  zCT zZM zmX10_wrong [.ref 0, .int (1 : Int32), .int (σ.1 0 13)] σ (zQr (fun r2 s1 =>
    o_athrow zYM 2 Q QX (fun _ _ _ _ => False) [] [.ref r2] s1)) QX
def PX10_read_401 (K57 : Int32 → zS → Prop) (K103 : Int32 → zS → Prop) (K130 : Int32 → Int32 → Int32 → zS → Prop) (Q : Option Value → zS → Prop) (QX : zS → Prop) (x4 : Int32) (σ : zS) : Prop :=
  ((x4 = 0 →
    (((σ.2 0 19) ≤ (0 : Int64) →
      Q none σ) ∧ (¬ (σ.2 0 19) ≤ (0 : Int64) →
      PX10_read_415 K57 K103 K130 Q QX σ))) ∧ (¬ x4 = 0 →
    Q none σ))
def PX10_read_354 (K57 : Int32 → zS → Prop) (K103 : Int32 → zS → Prop) (K130 : Int32 → Int32 → Int32 → zS → Prop) (Q : Option Value → zS → Prop) (QX : zS → Prop) (x2 : Int32) (x4 : Int32) (x6 : Int32) (σ : zS) : Prop :=
  ((x4 = 0 →
    ((x6 = (11 : Int32) →
      ∀ s1 : zS, s1 = zsI σ 0 13 (σ.1 1 1) →
      K130 x2 (1 : Int32) (1 : Int32) s1) ∧ (¬ x6 = (11 : Int32) →
      ∀ s2 : zS, s2 = zsI σ 0 13 (σ.1 1 1) →
      K130 x2 (1 : Int32) (0 : Int32) s2))) ∧ (¬ x4 = 0 →
    ∀ s3 : zS, s3 = zsI σ 0 13 (σ.1 1 1) →
    K130 x2 (1 : Int32) (1 : Int32) s3))
def PX10_read_343 (K57 : Int32 → zS → Prop) (K103 : Int32 → zS → Prop) (K130 : Int32 → Int32 → Int32 → zS → Prop) (Q : Option Value → zS → Prop) (QX : zS → Prop) (x2 : Int32) (x3 : Int32) (x4 : Int32) (x6 : Int32) (σ : zS) : Prop :=
  ((x3 = 0 →
    ((x6 = (10 : Int32) →
      PX10_read_354 K57 K103 K130 Q QX x2 x4 x6 σ) ∧ (¬ x6 = (10 : Int32) →
      ((x4 = 0 →
        ((x6 = (11 : Int32) →
          ∀ s1 : zS, s1 = zsI σ 0 13 (σ.1 1 1) →
          K130 x2 (0 : Int32) (1 : Int32) s1) ∧ (¬ x6 = (11 : Int32) →
          ∀ s2 : zS, s2 = zsI σ 0 13 (σ.1 1 1) →
          K130 x2 (0 : Int32) (0 : Int32) s2))) ∧ (¬ x4 = 0 →
        ∀ s3 : zS, s3 = zsI σ 0 13 (σ.1 1 1) →
        K130 x2 (0 : Int32) (1 : Int32) s3))))) ∧ (¬ x3 = 0 →
    PX10_read_354 K57 K103 K130 Q QX x2 x4 x6 σ))
def PX10_read_333 (K57 : Int32 → zS → Prop) (K103 : Int32 → zS → Prop) (K130 : Int32 → Int32 → Int32 → zS → Prop) (Q : Option Value → zS → Prop) (QX : zS → Prop)  (σ : zS) : Prop :=
  zCT zZM zmX10_wrong [.ref 0, .int (1 : Int32), .int (σ.1 0 13)] σ (zQr (fun r2 s1 =>
    o_athrow zYM 2 Q QX (fun _ _ _ _ => False) [] [.ref r2] s1)) QX
def PX10_read_306 (K57 : Int32 → zS → Prop) (K103 : Int32 → zS → Prop) (K130 : Int32 → Int32 → Int32 → zS → Prop) (Q : Option Value → zS → Prop) (QX : zS → Prop) (x2 : Int32) (x3 : Int32) (x4 : Int32) (x6 : Int32) (σ : zS) : Prop :=
  ((x6 = (11 : Int32) →
    (((σ.1 0 18) = 0 →
      PX10_read_343 K57 K103 K130 Q QX x2 x3 x4 x6 σ) ∧ (¬ (σ.1 0 18) = 0 →
      ((((σ.1 1 8).toInt64) = (σ.2 0 19) →
        PX10_read_343 K57 K103 K130 Q QX x2 x3 x4 x6 σ) ∧ (¬ ((σ.1 1 8).toInt64) = (σ.2 0 19) →
        PX10_read_333 K57 K103 K130 Q QX σ))))) ∧ (¬ x6 = (11 : Int32) →
    PX10_read_343 K57 K103 K130 Q QX x2 x3 x4 x6 σ))
def PX10_read_267 (K57 : Int32 → zS → Prop) (K103 : Int32 → zS → Prop) (K130 : Int32 → Int32 → Int32 → zS → Prop) (Q : Option Value → zS → Prop) (QX : zS → Prop) (x2 : Int32) (x3 : Int32) (x4 : Int32) (x6 : Int32) (σ : zS) : Prop :=
  (((σ.1 0 13) ≤ (σ.1 0 12) →
    ((x6 = (10 : Int32) →
      (((σ.1 1 9) = (σ.1 1 4) →
        PX10_read_306 K57 K103 K130 Q QX x2 x3 x4 x6 σ) ∧ (¬ (σ.1 1 9) = (σ.1 1 4) →
        PX10_read_333 K57 K103 K130 Q QX σ))) ∧ (¬ x6 = (10 : Int32) →
      PX10_read_306 K57 K103 K130 Q QX x2 x3 x4 x6 σ))) ∧ (¬ (σ.1 0 13) ≤ (σ.1 0 12) →
    zCT zZM zmX10_wrong [.ref 0, .int (1 : Int32), .int (σ.1 0 12)] σ (zQr (fun r2 s1 =>
      o_athrow zYM 2 Q QX (fun _ _ _ _ => False) [] [.ref r2] s1)) QX))
def PX10_read_188 (K57 : Int32 → zS → Prop) (K103 : Int32 → zS → Prop) (K130 : Int32 → Int32 → Int32 → zS → Prop) (Q : Option Value → zS → Prop) (QX : zS → Prop) (x3 : Int32) (x4 : Int32) (x6 : Int32) (x7 : Int32) (σ : zS) : Prop :=
  zCT zZM zmX10_u [.ref 0] σ (zQl (fun r2 s1 =>
    ((r2 ≤ (((s1.1 1 1) - (s1.1 0 12)).toInt64) →
      ∀ s3 : zS, s3 = zsI s1 0 13 ((s1.1 0 12) + (r2.toInt32)) →
      ((x6 = 0 →
        zCT zZM zmX10_nameItem [.ref 0, .int (0 : Int32)] s3 (zQv (fun s4 =>
          ∀ s5 : zS, s5 = zsI s4 0 12 (s4.1 0 13) →
          PX10_read_267 K57 K103 K130 Q QX x7 x3 x4 x6 s5)) QX) ∧ (¬ x6 = 0 →
        zCT zZM zmX10_section [.ref 0, .ref 1, .int x6] s3 (zQv (fun s6 =>
          PX10_read_267 K57 K103 K130 Q QX x7 x3 x4 x6 s6)) QX))) ∧ (¬ r2 ≤ (((s1.1 1 1) - (s1.1 0 12)).toInt64) →
      zCT zZM zmX10_wrong [.ref 0, .int (1 : Int32), .int (σ.1 0 12)] s1 (zQr (fun r8 s7 =>
        o_athrow zYM 2 Q QX (fun _ _ _ _ => False) [] [.ref r8] s7)) QX)))) QX
def PX10_read_130 (K57 : Int32 → zS → Prop) (K103 : Int32 → zS → Prop) (K130 : Int32 → Int32 → Int32 → zS → Prop) (Q : Option Value → zS → Prop) (QX : zS → Prop) (x2 : Int32) (x3 : Int32) (x4 : Int32) (σ : zS) : Prop :=
  (((σ.1 1 1) ≤ (σ.1 0 12) →
    ((x3 = 0 →
      ((0 < (σ.1 1 4) →
        PX10_read_415 K57 K103 K130 Q QX σ) ∧ (¬ 0 < (σ.1 1 4) →
        PX10_read_401 K57 K103 K130 Q QX x4 σ))) ∧ (¬ x3 = 0 →
      PX10_read_401 K57 K103 K130 Q QX x4 σ))) ∧ (¬ (σ.1 1 1) ≤ (σ.1 0 12) →
    zCT zZM zmX10_octet [.ref 0] σ (zQi (fun r2 s1 =>
      ((r2 = 0 →
        ((r2 = 0 →
          PX10_read_188 K57 K103 K130 Q QX x3 x4 r2 x2 s1) ∧ (¬ r2 = 0 →
          ((x2 < x2 →
            PX10_read_188 K57 K103 K130 Q QX x3 x4 r2 x2 s1) ∧ (¬ x2 < x2 →
            zCT zZM zmX10_wrong [.ref 0, .int (1 : Int32), .int (σ.1 0 12)] s1 (zQr (fun r4 s3 =>
              o_athrow zYM 2 Q QX (fun _ _ _ _ => False) [] [.ref r4] s3)) QX))))) ∧ (¬ r2 = 0 →
        zCT zZM zmX10_orderOf [.int r2] s1 (zQi (fun r6 s5 =>
          ((r2 = 0 →
            PX10_read_188 K57 K103 K130 Q QX x3 x4 r2 r6 s5) ∧ (¬ r2 = 0 →
            ((x2 < r6 →
              PX10_read_188 K57 K103 K130 Q QX x3 x4 r2 r6 s5) ∧ (¬ x2 < r6 →
              zCT zZM zmX10_wrong [.ref 0, .int (1 : Int32), .int (σ.1 0 12)] s5 (zQr (fun r8 s7 =>
                o_athrow zYM 2 Q QX (fun _ _ _ _ => False) [] [.ref r8] s7)) QX)))))) QX)))) QX))
def PX10_read_103 (K57 : Int32 → zS → Prop) (K103 : Int32 → zS → Prop) (K130 : Int32 → Int32 → Int32 → zS → Prop) (Q : Option Value → zS → Prop) (QX : zS → Prop) (x2 : Int32) (σ : zS) : Prop :=
  (((8 : Int32) ≤ x2 →
    K130 (-1 : Int32) (0 : Int32) (0 : Int32) σ) ∧ (¬ (8 : Int32) ≤ x2 →
    zCT zZM zmX10_headerAt [.int x2] σ (zQi (fun r2 s1 =>
      zCT zZM zmX10_needOctet [.ref 0, .int r2] s1 (zQv (fun s3 =>
        K103 (x2 + 1) s3)) QX)) QX))
def PX10_read_57 (K57 : Int32 → zS → Prop) (K103 : Int32 → zS → Prop) (K130 : Int32 → Int32 → Int32 → zS → Prop) (Q : Option Value → zS → Prop) (QX : zS → Prop) (x2 : Int32) (σ : zS) : Prop :=
  (((4 : Int32) ≤ x2 →
    ((0 : Int32) = 0 ∨ (0 : Int32) = 1) ∧ ∀ s1 : zS, s1 = zsI σ 0 18 (0 : Int32) →
    ∀ s2 : zS, s2 = zsL s1 0 19 (0 : Int64) →
    ∀ s3 : zS, s3 = zsI s2 0 12 (s2.1 1 0) →
    ∀ s4 : zS, s4 = zsI s3 0 13 (s3.1 1 1) →
    K103 (0 : Int32) s4) ∧ (¬ (4 : Int32) ≤ x2 →
    vp_in x2 4 ∧ ∀ s5 : zS, s5 = zsI σ 55 x2.toNatClampNeg (0 : Int32) →
    K57 (x2 + 1) s5))
def PX10_read_0 (K57 : Int32 → zS → Prop) (K103 : Int32 → zS → Prop) (K130 : Int32 → Int32 → Int32 → zS → Prop) (Q : Option Value → zS → Prop) (QX : zS → Prop)  (σ : zS) : Prop :=
  ∀ s1 : zS, s1 = zsI σ 1 2 (0 : Int32) →
  ∀ s2 : zS, s2 = zsI s1 1 3 (0 : Int32) →
  ∀ s3 : zS, s3 = zsI s2 1 4 (0 : Int32) →
  ∀ s4 : zS, s4 = zsI s3 1 5 (0 : Int32) →
  ∀ s5 : zS, s5 = zsI s4 1 6 (0 : Int32) →
  ∀ s6 : zS, s6 = zsI s5 1 7 (0 : Int32) →
  ∀ s7 : zS, s7 = zsI s6 1 8 (0 : Int32) →
  ∀ s8 : zS, s8 = zsI s7 1 9 (0 : Int32) →
  ∀ s9 : zS, s9 = zsI s8 1 10 (-1 : Int32) →
  ∀ s10 : zS, s10 = zsI s9 1 12 (0 : Int32) →
  ∀ s11 : zS, s11 = zsI s10 1 13 (0 : Int32) →
  K57 (0 : Int32) s11
def LIX10_read (I57 : Nat → Int32 → zS → Prop) (I103 : Nat → Int32 → zS → Prop) (I130 : Nat → Int32 → Int32 → Int32 → zS → Prop) : Nat → Nat → zLo → zS → Prop := fun t n l τ => bif Nat.beq t 57 then zdR 0 0 (zdR 1 1 (zdI 2 (fun x2 => zdN (I57 n x2 τ)))) l else bif Nat.beq t 103 then zdR 0 0 (zdR 1 1 (zdI 2 (fun x2 => zdN (I103 n x2 τ)))) l else bif Nat.beq t 130 then zdR 0 0 (zdR 1 1 (zdI 2 (fun x2 => zdI 3 (fun x3 => zdI 4 (fun x4 => zdN (I130 n x2 x3 x4 τ)))))) l else False
def JIX10_read (I57 : Nat → Int32 → zS → Prop) (I103 : Nat → Int32 → zS → Prop) (I130 : Nat → Int32 → Int32 → Int32 → zS → Prop) (Q : Option Value → zS → Prop) (QX : zS → Prop) : Nat → Option Nat → zLo → zS → Prop := fun t n l τ => bif Nat.beq t 188 then zdR 0 0 (zdR 1 1 (zdI 3 (fun x3 => zdI 4 (fun x4 => zdI 6 (fun x6 => zdI 7 (fun x7 => zdN (PX10_read_188 (fun y2 τ => ∃ n', zlt n' n ∧ I57 n' y2 τ) (fun y2 τ => ∃ n', zlt n' n ∧ I103 n' y2 τ) (fun y2 y3 y4 τ => ∃ n', zlt n' n ∧ I130 n' y2 y3 y4 τ) Q QX x3 x4 x6 x7 τ))))))) l else bif Nat.beq t 267 then zdR 0 0 (zdR 1 1 (zdI 2 (fun x2 => zdI 3 (fun x3 => zdI 4 (fun x4 => zdI 6 (fun x6 => zdN (PX10_read_267 (fun y2 τ => ∃ n', zlt n' n ∧ I57 n' y2 τ) (fun y2 τ => ∃ n', zlt n' n ∧ I103 n' y2 τ) (fun y2 y3 y4 τ => ∃ n', zlt n' n ∧ I130 n' y2 y3 y4 τ) Q QX x2 x3 x4 x6 τ))))))) l else bif Nat.beq t 306 then zdR 0 0 (zdR 1 1 (zdI 2 (fun x2 => zdI 3 (fun x3 => zdI 4 (fun x4 => zdI 6 (fun x6 => zdN (PX10_read_306 (fun y2 τ => ∃ n', zlt n' n ∧ I57 n' y2 τ) (fun y2 τ => ∃ n', zlt n' n ∧ I103 n' y2 τ) (fun y2 y3 y4 τ => ∃ n', zlt n' n ∧ I130 n' y2 y3 y4 τ) Q QX x2 x3 x4 x6 τ))))))) l else bif Nat.beq t 333 then zdR 0 0 (zdN (PX10_read_333 (fun y2 τ => ∃ n', zlt n' n ∧ I57 n' y2 τ) (fun y2 τ => ∃ n', zlt n' n ∧ I103 n' y2 τ) (fun y2 y3 y4 τ => ∃ n', zlt n' n ∧ I130 n' y2 y3 y4 τ) Q QX  τ)) l else bif Nat.beq t 343 then zdR 0 0 (zdR 1 1 (zdI 2 (fun x2 => zdI 3 (fun x3 => zdI 4 (fun x4 => zdI 6 (fun x6 => zdN (PX10_read_343 (fun y2 τ => ∃ n', zlt n' n ∧ I57 n' y2 τ) (fun y2 τ => ∃ n', zlt n' n ∧ I103 n' y2 τ) (fun y2 y3 y4 τ => ∃ n', zlt n' n ∧ I130 n' y2 y3 y4 τ) Q QX x2 x3 x4 x6 τ))))))) l else bif Nat.beq t 354 then zdR 0 0 (zdR 1 1 (zdI 2 (fun x2 => zdI 4 (fun x4 => zdI 6 (fun x6 => zdN (PX10_read_354 (fun y2 τ => ∃ n', zlt n' n ∧ I57 n' y2 τ) (fun y2 τ => ∃ n', zlt n' n ∧ I103 n' y2 τ) (fun y2 y3 y4 τ => ∃ n', zlt n' n ∧ I130 n' y2 y3 y4 τ) Q QX x2 x4 x6 τ)))))) l else bif Nat.beq t 401 then zdR 0 0 (zdI 4 (fun x4 => zdN (PX10_read_401 (fun y2 τ => ∃ n', zlt n' n ∧ I57 n' y2 τ) (fun y2 τ => ∃ n', zlt n' n ∧ I103 n' y2 τ) (fun y2 y3 y4 τ => ∃ n', zlt n' n ∧ I130 n' y2 y3 y4 τ) Q QX x4 τ))) l else bif Nat.beq t 415 then zdR 0 0 (zdN (PX10_read_415 (fun y2 τ => ∃ n', zlt n' n ∧ I57 n' y2 τ) (fun y2 τ => ∃ n', zlt n' n ∧ I103 n' y2 τ) (fun y2 y3 y4 τ => ∃ n', zlt n' n ∧ I130 n' y2 y3 y4 τ) Q QX  τ)) l else False
set_option maxRecDepth 50000 in
theorem pX10_read_0 (I57 : Nat → Int32 → zS → Prop) (I103 : Nat → Int32 → zS → Prop) (I130 : Nat → Int32 → Int32 → Int32 → zS → Prop) (Q : Option Value → zS → Prop) (QX : zS → Prop)   (σ : zS) (h : PX10_read_0 (fun y2 τ => ∃ n', zlt n' none ∧ I57 n' y2 τ) (fun y2 τ => ∃ n', zlt n' none ∧ I103 n' y2 τ) (fun y2 y3 y4 τ => ∃ n', zlt n' none ∧ I130 n' y2 y3 y4 τ) Q QX  σ) : zwp JX10_read (zB hX10_read (zKt jnX10_read (JIX10_read I57 I103 I130 Q QX) (LIX10_read I57 I103 I130) none 0)) Q QX kX10_read 0 (lv_args 0 [.ref 0, .ref 1]) [] σ := h
set_option maxRecDepth 50000 in
theorem pX10_read_57 (I57 : Nat → Int32 → zS → Prop) (I103 : Nat → Int32 → zS → Prop) (I130 : Nat → Int32 → Int32 → Int32 → zS → Prop) (Q : Option Value → zS → Prop) (QX : zS → Prop) (m : Nat) (x2 : Int32) (σ : zS) (h : PX10_read_57 (fun y2 τ => ∃ n', zlt n' (some m) ∧ I57 n' y2 τ) (fun y2 τ => ∃ n', zlt n' (some m) ∧ I103 n' y2 τ) (fun y2 y3 y4 τ => ∃ n', zlt n' (some m) ∧ I130 n' y2 y3 y4 τ) Q QX x2 σ) : zwp JX10_read (zB hX10_read (zKt jnX10_read (JIX10_read I57 I103 I130 Q QX) (LIX10_read I57 I103 I130) (some m) 57)) Q QX kX10_read 57 [(0, .ref 0), (1, .ref 1), (2, .int x2)] [] σ := h
set_option maxRecDepth 50000 in
theorem pX10_read_103 (I57 : Nat → Int32 → zS → Prop) (I103 : Nat → Int32 → zS → Prop) (I130 : Nat → Int32 → Int32 → Int32 → zS → Prop) (Q : Option Value → zS → Prop) (QX : zS → Prop) (m : Nat) (x2 : Int32) (σ : zS) (h : PX10_read_103 (fun y2 τ => ∃ n', zlt n' (some m) ∧ I57 n' y2 τ) (fun y2 τ => ∃ n', zlt n' (some m) ∧ I103 n' y2 τ) (fun y2 y3 y4 τ => ∃ n', zlt n' (some m) ∧ I130 n' y2 y3 y4 τ) Q QX x2 σ) : zwp JX10_read (zB hX10_read (zKt jnX10_read (JIX10_read I57 I103 I130 Q QX) (LIX10_read I57 I103 I130) (some m) 103)) Q QX kX10_read 103 [(0, .ref 0), (1, .ref 1), (2, .int x2)] [] σ := h
set_option maxRecDepth 50000 in
theorem pX10_read_130 (I57 : Nat → Int32 → zS → Prop) (I103 : Nat → Int32 → zS → Prop) (I130 : Nat → Int32 → Int32 → Int32 → zS → Prop) (Q : Option Value → zS → Prop) (QX : zS → Prop) (m : Nat) (x2 : Int32) (x3 : Int32) (x4 : Int32) (σ : zS) (h : PX10_read_130 (fun y2 τ => ∃ n', zlt n' (some m) ∧ I57 n' y2 τ) (fun y2 τ => ∃ n', zlt n' (some m) ∧ I103 n' y2 τ) (fun y2 y3 y4 τ => ∃ n', zlt n' (some m) ∧ I130 n' y2 y3 y4 τ) Q QX x2 x3 x4 σ) : zwp JX10_read (zB hX10_read (zKt jnX10_read (JIX10_read I57 I103 I130 Q QX) (LIX10_read I57 I103 I130) (some m) 130)) Q QX kX10_read 130 [(0, .ref 0), (1, .ref 1), (2, .int x2), (3, .int x3), (4, .int x4)] [] σ := h
set_option maxRecDepth 50000 in
theorem pX10_read_188 (I57 : Nat → Int32 → zS → Prop) (I103 : Nat → Int32 → zS → Prop) (I130 : Nat → Int32 → Int32 → Int32 → zS → Prop) (Q : Option Value → zS → Prop) (QX : zS → Prop) (n : Option Nat) (x3 : Int32) (x4 : Int32) (x6 : Int32) (x7 : Int32) (σ : zS) (h : PX10_read_188 (fun y2 τ => ∃ n', zlt n' n ∧ I57 n' y2 τ) (fun y2 τ => ∃ n', zlt n' n ∧ I103 n' y2 τ) (fun y2 y3 y4 τ => ∃ n', zlt n' n ∧ I130 n' y2 y3 y4 τ) Q QX x3 x4 x6 x7 σ) : zwp JX10_read (zB hX10_read (zKt jnX10_read (JIX10_read I57 I103 I130 Q QX) (LIX10_read I57 I103 I130) n 188)) Q QX kX10_read 188 [(0, .ref 0), (1, .ref 1), (3, .int x3), (4, .int x4), (6, .int x6), (7, .int x7)] [] σ := h
set_option maxRecDepth 50000 in
theorem pX10_read_267 (I57 : Nat → Int32 → zS → Prop) (I103 : Nat → Int32 → zS → Prop) (I130 : Nat → Int32 → Int32 → Int32 → zS → Prop) (Q : Option Value → zS → Prop) (QX : zS → Prop) (n : Option Nat) (x2 : Int32) (x3 : Int32) (x4 : Int32) (x6 : Int32) (σ : zS) (h : PX10_read_267 (fun y2 τ => ∃ n', zlt n' n ∧ I57 n' y2 τ) (fun y2 τ => ∃ n', zlt n' n ∧ I103 n' y2 τ) (fun y2 y3 y4 τ => ∃ n', zlt n' n ∧ I130 n' y2 y3 y4 τ) Q QX x2 x3 x4 x6 σ) : zwp JX10_read (zB hX10_read (zKt jnX10_read (JIX10_read I57 I103 I130 Q QX) (LIX10_read I57 I103 I130) n 267)) Q QX kX10_read 267 [(0, .ref 0), (1, .ref 1), (2, .int x2), (3, .int x3), (4, .int x4), (6, .int x6)] [] σ := h
set_option maxRecDepth 50000 in
theorem pX10_read_306 (I57 : Nat → Int32 → zS → Prop) (I103 : Nat → Int32 → zS → Prop) (I130 : Nat → Int32 → Int32 → Int32 → zS → Prop) (Q : Option Value → zS → Prop) (QX : zS → Prop) (n : Option Nat) (x2 : Int32) (x3 : Int32) (x4 : Int32) (x6 : Int32) (σ : zS) (h : PX10_read_306 (fun y2 τ => ∃ n', zlt n' n ∧ I57 n' y2 τ) (fun y2 τ => ∃ n', zlt n' n ∧ I103 n' y2 τ) (fun y2 y3 y4 τ => ∃ n', zlt n' n ∧ I130 n' y2 y3 y4 τ) Q QX x2 x3 x4 x6 σ) : zwp JX10_read (zB hX10_read (zKt jnX10_read (JIX10_read I57 I103 I130 Q QX) (LIX10_read I57 I103 I130) n 306)) Q QX kX10_read 306 [(0, .ref 0), (1, .ref 1), (2, .int x2), (3, .int x3), (4, .int x4), (6, .int x6)] [] σ := h
set_option maxRecDepth 50000 in
theorem pX10_read_333 (I57 : Nat → Int32 → zS → Prop) (I103 : Nat → Int32 → zS → Prop) (I130 : Nat → Int32 → Int32 → Int32 → zS → Prop) (Q : Option Value → zS → Prop) (QX : zS → Prop) (n : Option Nat)  (σ : zS) (h : PX10_read_333 (fun y2 τ => ∃ n', zlt n' n ∧ I57 n' y2 τ) (fun y2 τ => ∃ n', zlt n' n ∧ I103 n' y2 τ) (fun y2 y3 y4 τ => ∃ n', zlt n' n ∧ I130 n' y2 y3 y4 τ) Q QX  σ) : zwp JX10_read (zB hX10_read (zKt jnX10_read (JIX10_read I57 I103 I130 Q QX) (LIX10_read I57 I103 I130) n 333)) Q QX kX10_read 333 [(0, .ref 0)] [] σ := h
set_option maxRecDepth 50000 in
theorem pX10_read_343 (I57 : Nat → Int32 → zS → Prop) (I103 : Nat → Int32 → zS → Prop) (I130 : Nat → Int32 → Int32 → Int32 → zS → Prop) (Q : Option Value → zS → Prop) (QX : zS → Prop) (n : Option Nat) (x2 : Int32) (x3 : Int32) (x4 : Int32) (x6 : Int32) (σ : zS) (h : PX10_read_343 (fun y2 τ => ∃ n', zlt n' n ∧ I57 n' y2 τ) (fun y2 τ => ∃ n', zlt n' n ∧ I103 n' y2 τ) (fun y2 y3 y4 τ => ∃ n', zlt n' n ∧ I130 n' y2 y3 y4 τ) Q QX x2 x3 x4 x6 σ) : zwp JX10_read (zB hX10_read (zKt jnX10_read (JIX10_read I57 I103 I130 Q QX) (LIX10_read I57 I103 I130) n 343)) Q QX kX10_read 343 [(0, .ref 0), (1, .ref 1), (2, .int x2), (3, .int x3), (4, .int x4), (6, .int x6)] [] σ := h
set_option maxRecDepth 50000 in
theorem pX10_read_354 (I57 : Nat → Int32 → zS → Prop) (I103 : Nat → Int32 → zS → Prop) (I130 : Nat → Int32 → Int32 → Int32 → zS → Prop) (Q : Option Value → zS → Prop) (QX : zS → Prop) (n : Option Nat) (x2 : Int32) (x4 : Int32) (x6 : Int32) (σ : zS) (h : PX10_read_354 (fun y2 τ => ∃ n', zlt n' n ∧ I57 n' y2 τ) (fun y2 τ => ∃ n', zlt n' n ∧ I103 n' y2 τ) (fun y2 y3 y4 τ => ∃ n', zlt n' n ∧ I130 n' y2 y3 y4 τ) Q QX x2 x4 x6 σ) : zwp JX10_read (zB hX10_read (zKt jnX10_read (JIX10_read I57 I103 I130 Q QX) (LIX10_read I57 I103 I130) n 354)) Q QX kX10_read 354 [(0, .ref 0), (1, .ref 1), (2, .int x2), (4, .int x4), (6, .int x6)] [] σ := h
set_option maxRecDepth 50000 in
theorem pX10_read_401 (I57 : Nat → Int32 → zS → Prop) (I103 : Nat → Int32 → zS → Prop) (I130 : Nat → Int32 → Int32 → Int32 → zS → Prop) (Q : Option Value → zS → Prop) (QX : zS → Prop) (n : Option Nat) (x4 : Int32) (σ : zS) (h : PX10_read_401 (fun y2 τ => ∃ n', zlt n' n ∧ I57 n' y2 τ) (fun y2 τ => ∃ n', zlt n' n ∧ I103 n' y2 τ) (fun y2 y3 y4 τ => ∃ n', zlt n' n ∧ I130 n' y2 y3 y4 τ) Q QX x4 σ) : zwp JX10_read (zB hX10_read (zKt jnX10_read (JIX10_read I57 I103 I130 Q QX) (LIX10_read I57 I103 I130) n 401)) Q QX kX10_read 401 [(0, .ref 0), (4, .int x4)] [] σ := h
set_option maxRecDepth 50000 in
theorem pX10_read_415 (I57 : Nat → Int32 → zS → Prop) (I103 : Nat → Int32 → zS → Prop) (I130 : Nat → Int32 → Int32 → Int32 → zS → Prop) (Q : Option Value → zS → Prop) (QX : zS → Prop) (n : Option Nat)  (σ : zS) (h : PX10_read_415 (fun y2 τ => ∃ n', zlt n' n ∧ I57 n' y2 τ) (fun y2 τ => ∃ n', zlt n' n ∧ I103 n' y2 τ) (fun y2 y3 y4 τ => ∃ n', zlt n' n ∧ I130 n' y2 y3 y4 τ) Q QX  σ) : zwp JX10_read (zB hX10_read (zKt jnX10_read (JIX10_read I57 I103 I130 Q QX) (LIX10_read I57 I103 I130) n 415)) Q QX kX10_read 415 [(0, .ref 0)] [] σ := h
set_option maxRecDepth 50000 in
theorem rX10_read {Q : Option Value → zS → Prop} {QX : zS → Prop}  {σ : zS} (I57 : Nat → Int32 → zS → Prop) (I103 : Nat → Int32 → zS → Prop) (I130 : Nat → Int32 → Int32 → Int32 → zS → Prop) (hs57 : ∀ (m : Nat) (x2 : Int32) (σ : zS), I57 m x2 σ → PX10_read_57 (fun y2 τ => ∃ n', zlt n' (some m) ∧ I57 n' y2 τ) (fun y2 τ => ∃ n', zlt n' (some m) ∧ I103 n' y2 τ) (fun y2 y3 y4 τ => ∃ n', zlt n' (some m) ∧ I130 n' y2 y3 y4 τ) Q QX x2 σ) (hs103 : ∀ (m : Nat) (x2 : Int32) (σ : zS), I103 m x2 σ → PX10_read_103 (fun y2 τ => ∃ n', zlt n' (some m) ∧ I57 n' y2 τ) (fun y2 τ => ∃ n', zlt n' (some m) ∧ I103 n' y2 τ) (fun y2 y3 y4 τ => ∃ n', zlt n' (some m) ∧ I130 n' y2 y3 y4 τ) Q QX x2 σ) (hs130 : ∀ (m : Nat) (x2 : Int32) (x3 : Int32) (x4 : Int32) (σ : zS), I130 m x2 x3 x4 σ → PX10_read_130 (fun y2 τ => ∃ n', zlt n' (some m) ∧ I57 n' y2 τ) (fun y2 τ => ∃ n', zlt n' (some m) ∧ I103 n' y2 τ) (fun y2 y3 y4 τ => ∃ n', zlt n' (some m) ∧ I130 n' y2 y3 y4 τ) Q QX x2 x3 x4 σ) (h0 : PX10_read_0 (fun y2 τ => ∃ n', zlt n' none ∧ I57 n' y2 τ) (fun y2 τ => ∃ n', zlt n' none ∧ I103 n' y2 τ) (fun y2 y3 y4 τ => ∃ n', zlt n' none ∧ I130 n' y2 y3 y4 τ) Q QX  σ) : zCT zZM zmX10_read [.ref 0, .ref 1] σ Q QX := by
  refine zCT_of zZM_ok pnX10 (Nat.le_of_ble_eq_true rfl) kX10_read ksX10_read JX10_read 416 (fun t ht => ?_) hX10_read jnX10_read (JIX10_read I57 I103 I130 Q QX) (LIX10_read I57 I103 I130) (fun n t ln σ' ht hj hI => ?_) (fun m t ln σ' ht hj hI => ?_) (pX10_read_0 I57 I103 I130 Q QX  σ h0)
  · refine zor ht (fun ht => ?_) (fun ht => ?_)
    · skip
      refine zor ht (fun ht => ?_) (fun ht => ?_)
      · skip
        refine zor ht (fun ht => ?_) (fun ht => ?_)
        · skip
          refine zor ht (fun ht => ?_) (fun ht => ?_)
          · skip
            refine zor ht (fun ht => ?_) (fun ht => ?_)
            · skip
              refine zor ht (fun ht => ?_) (fun ht => ?_)
              · skip
                refine zor ht (fun ht => ?_) (fun ht => ?_)
                · skip
                  refine zor ht (fun ht => ?_) (fun ht => ?_)
                  · skip
                    refine zor ht (fun ht => ?_) (fun ht => ?_)
                    · skip
                      refine zor ht (fun ht => ?_) (fun ht => ?_)
                      · skip
                        have et := Nat.eq_of_beq_eq_true ht; subst et
                        exact Nat.le_of_ble_eq_true rfl
                      · skip
                        have et := Nat.eq_of_beq_eq_true ht; subst et
                        exact Nat.le_of_ble_eq_true rfl
                    · skip
                      have et := Nat.eq_of_beq_eq_true ht; subst et
                      exact Nat.le_of_ble_eq_true rfl
                  · skip
                    have et := Nat.eq_of_beq_eq_true ht; subst et
                    exact Nat.le_of_ble_eq_true rfl
                · skip
                  have et := Nat.eq_of_beq_eq_true ht; subst et
                  exact Nat.le_of_ble_eq_true rfl
              · skip
                have et := Nat.eq_of_beq_eq_true ht; subst et
                exact Nat.le_of_ble_eq_true rfl
            · skip
              have et := Nat.eq_of_beq_eq_true ht; subst et
              exact Nat.le_of_ble_eq_true rfl
          · skip
            have et := Nat.eq_of_beq_eq_true ht; subst et
            exact Nat.le_of_ble_eq_true rfl
        · skip
          have et := Nat.eq_of_beq_eq_true ht; subst et
          exact Nat.le_of_ble_eq_true rfl
      · skip
        have et := Nat.eq_of_beq_eq_true ht; subst et
        exact Nat.le_of_ble_eq_true rfl
    · skip
      have et := Nat.eq_of_beq_eq_true ht; subst et
      exact Nat.le_of_ble_eq_true rfl
  · refine zor ht (fun ht => ?_) (fun ht => ?_)
    · skip
      refine zor ht (fun ht => ?_) (fun ht => ?_)
      · skip
        refine zor ht (fun ht => ?_) (fun ht => ?_)
        · skip
          refine zor ht (fun ht => ?_) (fun ht => ?_)
          · skip
            refine zor ht (fun ht => ?_) (fun ht => ?_)
            · skip
              refine zor ht (fun ht => ?_) (fun ht => ?_)
              · skip
                refine zor ht (fun ht => ?_) (fun ht => ?_)
                · skip
                  refine zor ht (fun ht => ?_) (fun ht => ?_)
                  · skip
                    refine zor ht (fun ht => ?_) (fun ht => ?_)
                    · skip
                      refine zor ht (fun ht => ?_) (fun ht => ?_)
                      · skip
                        have et := Nat.eq_of_beq_eq_true ht; subst et
                        cases hj
                      · skip
                        have et := Nat.eq_of_beq_eq_true ht; subst et
                        cases hj
                    · skip
                      have et := Nat.eq_of_beq_eq_true ht; subst et
                      cases hj
                  · skip
                    have et := Nat.eq_of_beq_eq_true ht; subst et
                    have hI : JIX10_read I57 I103 I130 Q QX 188 n ln σ' := hI
                    obtain ⟨l0, e0, hI⟩ := zdR_e (i := 0) (q := 0) hI; subst e0
                    obtain ⟨l1, e1, hI⟩ := zdR_e (i := 1) (q := 1) hI; subst e1
                    obtain ⟨x3, l3, e3, hI⟩ := zdI_e (i := 3) hI; subst e3
                    obtain ⟨x4, l4, e4, hI⟩ := zdI_e (i := 4) hI; subst e4
                    obtain ⟨x6, l6, e6, hI⟩ := zdI_e (i := 6) hI; subst e6
                    obtain ⟨x7, l7, e7, hI⟩ := zdI_e (i := 7) hI; subst e7
                    obtain ⟨e, hI⟩ := zdN_e hI; subst e
                    exact pX10_read_188 I57 I103 I130 Q QX n x3 x4 x6 x7 σ' hI
                · skip
                  have et := Nat.eq_of_beq_eq_true ht; subst et
                  have hI : JIX10_read I57 I103 I130 Q QX 267 n ln σ' := hI
                  obtain ⟨l0, e0, hI⟩ := zdR_e (i := 0) (q := 0) hI; subst e0
                  obtain ⟨l1, e1, hI⟩ := zdR_e (i := 1) (q := 1) hI; subst e1
                  obtain ⟨x2, l2, e2, hI⟩ := zdI_e (i := 2) hI; subst e2
                  obtain ⟨x3, l3, e3, hI⟩ := zdI_e (i := 3) hI; subst e3
                  obtain ⟨x4, l4, e4, hI⟩ := zdI_e (i := 4) hI; subst e4
                  obtain ⟨x6, l6, e6, hI⟩ := zdI_e (i := 6) hI; subst e6
                  obtain ⟨e, hI⟩ := zdN_e hI; subst e
                  exact pX10_read_267 I57 I103 I130 Q QX n x2 x3 x4 x6 σ' hI
              · skip
                have et := Nat.eq_of_beq_eq_true ht; subst et
                have hI : JIX10_read I57 I103 I130 Q QX 306 n ln σ' := hI
                obtain ⟨l0, e0, hI⟩ := zdR_e (i := 0) (q := 0) hI; subst e0
                obtain ⟨l1, e1, hI⟩ := zdR_e (i := 1) (q := 1) hI; subst e1
                obtain ⟨x2, l2, e2, hI⟩ := zdI_e (i := 2) hI; subst e2
                obtain ⟨x3, l3, e3, hI⟩ := zdI_e (i := 3) hI; subst e3
                obtain ⟨x4, l4, e4, hI⟩ := zdI_e (i := 4) hI; subst e4
                obtain ⟨x6, l6, e6, hI⟩ := zdI_e (i := 6) hI; subst e6
                obtain ⟨e, hI⟩ := zdN_e hI; subst e
                exact pX10_read_306 I57 I103 I130 Q QX n x2 x3 x4 x6 σ' hI
            · skip
              have et := Nat.eq_of_beq_eq_true ht; subst et
              have hI : JIX10_read I57 I103 I130 Q QX 333 n ln σ' := hI
              obtain ⟨l0, e0, hI⟩ := zdR_e (i := 0) (q := 0) hI; subst e0
              obtain ⟨e, hI⟩ := zdN_e hI; subst e
              exact pX10_read_333 I57 I103 I130 Q QX n  σ' hI
          · skip
            have et := Nat.eq_of_beq_eq_true ht; subst et
            have hI : JIX10_read I57 I103 I130 Q QX 343 n ln σ' := hI
            obtain ⟨l0, e0, hI⟩ := zdR_e (i := 0) (q := 0) hI; subst e0
            obtain ⟨l1, e1, hI⟩ := zdR_e (i := 1) (q := 1) hI; subst e1
            obtain ⟨x2, l2, e2, hI⟩ := zdI_e (i := 2) hI; subst e2
            obtain ⟨x3, l3, e3, hI⟩ := zdI_e (i := 3) hI; subst e3
            obtain ⟨x4, l4, e4, hI⟩ := zdI_e (i := 4) hI; subst e4
            obtain ⟨x6, l6, e6, hI⟩ := zdI_e (i := 6) hI; subst e6
            obtain ⟨e, hI⟩ := zdN_e hI; subst e
            exact pX10_read_343 I57 I103 I130 Q QX n x2 x3 x4 x6 σ' hI
        · skip
          have et := Nat.eq_of_beq_eq_true ht; subst et
          have hI : JIX10_read I57 I103 I130 Q QX 354 n ln σ' := hI
          obtain ⟨l0, e0, hI⟩ := zdR_e (i := 0) (q := 0) hI; subst e0
          obtain ⟨l1, e1, hI⟩ := zdR_e (i := 1) (q := 1) hI; subst e1
          obtain ⟨x2, l2, e2, hI⟩ := zdI_e (i := 2) hI; subst e2
          obtain ⟨x4, l4, e4, hI⟩ := zdI_e (i := 4) hI; subst e4
          obtain ⟨x6, l6, e6, hI⟩ := zdI_e (i := 6) hI; subst e6
          obtain ⟨e, hI⟩ := zdN_e hI; subst e
          exact pX10_read_354 I57 I103 I130 Q QX n x2 x4 x6 σ' hI
      · skip
        have et := Nat.eq_of_beq_eq_true ht; subst et
        have hI : JIX10_read I57 I103 I130 Q QX 401 n ln σ' := hI
        obtain ⟨l0, e0, hI⟩ := zdR_e (i := 0) (q := 0) hI; subst e0
        obtain ⟨x4, l4, e4, hI⟩ := zdI_e (i := 4) hI; subst e4
        obtain ⟨e, hI⟩ := zdN_e hI; subst e
        exact pX10_read_401 I57 I103 I130 Q QX n x4 σ' hI
    · skip
      have et := Nat.eq_of_beq_eq_true ht; subst et
      have hI : JIX10_read I57 I103 I130 Q QX 415 n ln σ' := hI
      obtain ⟨l0, e0, hI⟩ := zdR_e (i := 0) (q := 0) hI; subst e0
      obtain ⟨e, hI⟩ := zdN_e hI; subst e
      exact pX10_read_415 I57 I103 I130 Q QX n  σ' hI
  · refine zor ht (fun ht => ?_) (fun ht => ?_)
    · skip
      refine zor ht (fun ht => ?_) (fun ht => ?_)
      · skip
        refine zor ht (fun ht => ?_) (fun ht => ?_)
        · skip
          refine zor ht (fun ht => ?_) (fun ht => ?_)
          · skip
            refine zor ht (fun ht => ?_) (fun ht => ?_)
            · skip
              refine zor ht (fun ht => ?_) (fun ht => ?_)
              · skip
                refine zor ht (fun ht => ?_) (fun ht => ?_)
                · skip
                  refine zor ht (fun ht => ?_) (fun ht => ?_)
                  · skip
                    refine zor ht (fun ht => ?_) (fun ht => ?_)
                    · skip
                      refine zor ht (fun ht => ?_) (fun ht => ?_)
                      · skip
                        have et := Nat.eq_of_beq_eq_true ht; subst et
                        have hI : LIX10_read I57 I103 I130 57 m ln σ' := hI
                        obtain ⟨l0, e0, hI⟩ := zdR_e (i := 0) (q := 0) hI; subst e0
                        obtain ⟨l1, e1, hI⟩ := zdR_e (i := 1) (q := 1) hI; subst e1
                        obtain ⟨x2, l2, e2, hI⟩ := zdI_e (i := 2) hI; subst e2
                        obtain ⟨e, hI⟩ := zdN_e hI; subst e
                        exact pX10_read_57 I57 I103 I130 Q QX m x2 σ' (hs57 m x2 σ' hI)
                      · skip
                        have et := Nat.eq_of_beq_eq_true ht; subst et
                        have hI : LIX10_read I57 I103 I130 103 m ln σ' := hI
                        obtain ⟨l0, e0, hI⟩ := zdR_e (i := 0) (q := 0) hI; subst e0
                        obtain ⟨l1, e1, hI⟩ := zdR_e (i := 1) (q := 1) hI; subst e1
                        obtain ⟨x2, l2, e2, hI⟩ := zdI_e (i := 2) hI; subst e2
                        obtain ⟨e, hI⟩ := zdN_e hI; subst e
                        exact pX10_read_103 I57 I103 I130 Q QX m x2 σ' (hs103 m x2 σ' hI)
                    · skip
                      have et := Nat.eq_of_beq_eq_true ht; subst et
                      have hI : LIX10_read I57 I103 I130 130 m ln σ' := hI
                      obtain ⟨l0, e0, hI⟩ := zdR_e (i := 0) (q := 0) hI; subst e0
                      obtain ⟨l1, e1, hI⟩ := zdR_e (i := 1) (q := 1) hI; subst e1
                      obtain ⟨x2, l2, e2, hI⟩ := zdI_e (i := 2) hI; subst e2
                      obtain ⟨x3, l3, e3, hI⟩ := zdI_e (i := 3) hI; subst e3
                      obtain ⟨x4, l4, e4, hI⟩ := zdI_e (i := 4) hI; subst e4
                      obtain ⟨e, hI⟩ := zdN_e hI; subst e
                      exact pX10_read_130 I57 I103 I130 Q QX m x2 x3 x4 σ' (hs130 m x2 x3 x4 σ' hI)
                  · skip
                    have et := Nat.eq_of_beq_eq_true ht; subst et
                    cases hj
                · skip
                  have et := Nat.eq_of_beq_eq_true ht; subst et
                  cases hj
              · skip
                have et := Nat.eq_of_beq_eq_true ht; subst et
                cases hj
            · skip
              have et := Nat.eq_of_beq_eq_true ht; subst et
              cases hj
          · skip
            have et := Nat.eq_of_beq_eq_true ht; subst et
            cases hj
        · skip
          have et := Nat.eq_of_beq_eq_true ht; subst et
          cases hj
      · skip
        have et := Nat.eq_of_beq_eq_true ht; subst et
        cases hj
    · skip
      have et := Nat.eq_of_beq_eq_true ht; subst et
      cases hj
