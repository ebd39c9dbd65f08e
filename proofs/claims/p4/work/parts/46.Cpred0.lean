theorem pnX8 : plainName RX8 = true := by decide +kernel
theorem pnX4 : plainName RX4 = true := by decide +kernel
theorem pnX2 : plainName RX2 = true := by decide +kernel
theorem pnX6 : plainName RX6 = true := by decide +kernel
theorem pnX1 : plainName RX1 = true := by decide +kernel
theorem pnX3 : plainName RX3 = true := by decide +kernel
theorem pnX5 : plainName RX5 = true := by decide +kernel
theorem pnX7 : plainName RX7 = true := by decide +kernel
theorem pnX0 : plainName RX0 = true := by decide +kernel
def JX0_addCode : Nat → Bool := fun t => false && Nat.beq t 0
def jnX0_addCode : Nat → Bool := fun t => false && Nat.beq t 0
def hX0_addCode : Nat → List Nat := fun t => []
def PX0_addCode_0  (Q : Option Value → zS → Prop) (QX : zS → Prop) (a1 : Int32) (σ : zS) : Prop :=
  (((σ.1 8 5) < 0 →
    Q none σ) ∧ (¬ (σ.1 8 5) < 0 →
    (((nI 16000) ≤ (σ.1 8 5) →
      Q none σ) ∧ (¬ (nI 16000) ≤ (σ.1 8 5) →
      vp_in (σ.1 8 5) 16000 ∧ ∀ s1 : zS, s1 = zsI σ 32 (σ.1 8 5).toNatClampNeg (vp_nar .short (a1.toInt16.toInt32)) →
      ∀ s2 : zS, s2 = zsI s1 8 5 ((s1.1 8 5) + (1 : Int32)) →
      Q none s2))))
def LIX0_addCode  : Nat → Nat → zLo → zS → Prop := fun t n l τ => False
def JIX0_addCode  (Q : Option Value → zS → Prop) (QX : zS → Prop) : Nat → Option Nat → zLo → zS → Prop := fun t n l τ => False
set_option maxRecDepth 50000 in
theorem pX0_addCode_0  (Q : Option Value → zS → Prop) (QX : zS → Prop)  (a1 : Int32) (σ : zS) (h : PX0_addCode_0  Q QX a1 σ) : zwp JX0_addCode (zB hX0_addCode (zKt jnX0_addCode (JIX0_addCode  Q QX) (LIX0_addCode ) none 0)) Q QX kX0_addCode 0 (lv_args 0 [.ref 8, .int a1]) [] σ := h
set_option maxRecDepth 50000 in
theorem rX0_addCode {Q : Option Value → zS → Prop} {QX : zS → Prop} {a1 : Int32} {σ : zS}   (h0 : PX0_addCode_0  Q QX a1 σ) : zCT zZC zmX0_addCode [.ref 8, .int a1] σ Q QX := by
  refine zCT_of zZC_ok pnX0 (Nat.le_of_ble_eq_true rfl) kX0_addCode ksX0_addCode JX0_addCode 1 (fun t ht => ?_) hX0_addCode jnX0_addCode (JIX0_addCode  Q QX) (LIX0_addCode ) (fun n t ln σ' ht hj hI => ?_) (fun m t ln σ' ht hj hI => ?_) (pX0_addCode_0  Q QX a1 σ h0)
  · cases ht
  · cases ht
  · cases ht
def JX0_beginBody : Nat → Bool := fun t => false && Nat.beq t 0
def jnX0_beginBody : Nat → Bool := fun t => false && Nat.beq t 0
def hX0_beginBody : Nat → List Nat := fun t => []
def PX0_beginBody_0  (Q : Option Value → zS → Prop) (QX : zS → Prop) (a1 : Int32) (a2 : Int32) (σ : zS) : Prop :=
  ((a1 < 0 →
    Q none σ) ∧ (¬ a1 < 0 →
    (((nI 64) ≤ a1 →
      Q none σ) ∧ (¬ (nI 64) ≤ a1 →
      vp_in a1 64 ∧ ∀ s1 : zS, s1 = zsI σ 29 a1.toNatClampNeg (σ.1 8 5) →
      vp_in a1 64 ∧ ∀ s2 : zS, s2 = zsI s1 31 a1.toNatClampNeg a2 →
      Q none s2))))
def LIX0_beginBody  : Nat → Nat → zLo → zS → Prop := fun t n l τ => False
def JIX0_beginBody  (Q : Option Value → zS → Prop) (QX : zS → Prop) : Nat → Option Nat → zLo → zS → Prop := fun t n l τ => False
set_option maxRecDepth 50000 in
theorem pX0_beginBody_0  (Q : Option Value → zS → Prop) (QX : zS → Prop)  (a1 : Int32) (a2 : Int32) (σ : zS) (h : PX0_beginBody_0  Q QX a1 a2 σ) : zwp JX0_beginBody (zB hX0_beginBody (zKt jnX0_beginBody (JIX0_beginBody  Q QX) (LIX0_beginBody ) none 0)) Q QX kX0_beginBody 0 (lv_args 0 [.ref 8, .int a1, .int a2]) [] σ := h
set_option maxRecDepth 50000 in
theorem rX0_beginBody {Q : Option Value → zS → Prop} {QX : zS → Prop} {a1 : Int32} {a2 : Int32} {σ : zS}   (h0 : PX0_beginBody_0  Q QX a1 a2 σ) : zCT zZC zmX0_beginBody [.ref 8, .int a1, .int a2] σ Q QX := by
  refine zCT_of zZC_ok pnX0 (Nat.le_of_ble_eq_true rfl) kX0_beginBody ksX0_beginBody JX0_beginBody 1 (fun t ht => ?_) hX0_beginBody jnX0_beginBody (JIX0_beginBody  Q QX) (LIX0_beginBody ) (fun n t ln σ' ht hj hI => ?_) (fun m t ln σ' ht hj hI => ?_) (pX0_beginBody_0  Q QX a1 a2 σ h0)
  · cases ht
  · cases ht
  · cases ht
def JX0_copy : Nat → Bool := fun t => false && Nat.beq t 0
def jnX0_copy : Nat → Bool := fun t => false && Nat.beq t 0
def hX0_copy : Nat → List Nat := fun t => []
def PX0_copy_0  (Q : Option Value → zS → Prop) (QX : zS → Prop)  (σ : zS) : Prop :=
  (0 : Int32) = 0 ∧ (0 : Int32) = 0 ∧ ¬ (nI 13) < 0 ∧ (nI 13).toNatClampNeg ≤ 13 ∧ (nI 13).toNatClampNeg ≤ 13 ∧ (∀ i, i < (nI 13).toNatClampNeg → fits .int (.int (σ.1 28 i)) = true) ∧ ∀ s1 : zS, s1 = zsC σ 28 33 (nI 13).toNatClampNeg →
  (0 : Int32) = 0 ∧ (0 : Int32) = 0 ∧ ¬ (nI 64) < 0 ∧ (nI 64).toNatClampNeg ≤ 64 ∧ (nI 64).toNatClampNeg ≤ 64 ∧ (∀ i, i < (nI 64).toNatClampNeg → fits .int (.int (s1.1 29 i)) = true) ∧ ∀ s2 : zS, s2 = zsC s1 29 34 (nI 64).toNatClampNeg →
  (0 : Int32) = 0 ∧ (0 : Int32) = 0 ∧ ¬ (nI 64) < 0 ∧ (nI 64).toNatClampNeg ≤ 64 ∧ (nI 64).toNatClampNeg ≤ 64 ∧ (∀ i, i < (nI 64).toNatClampNeg → fits .int (.int (s2.1 30 i)) = true) ∧ ∀ s3 : zS, s3 = zsC s2 30 35 (nI 64).toNatClampNeg →
  (0 : Int32) = 0 ∧ (0 : Int32) = 0 ∧ ¬ (nI 64) < 0 ∧ (nI 64).toNatClampNeg ≤ 64 ∧ (nI 64).toNatClampNeg ≤ 64 ∧ (∀ i, i < (nI 64).toNatClampNeg → fits .int (.int (s3.1 31 i)) = true) ∧ ∀ s4 : zS, s4 = zsC s3 31 36 (nI 64).toNatClampNeg →
  ∀ s5 : zS, s5 = zsI s4 9 5 (if (0 : Int32) < (if (nI 16000) < (s4.1 8 5) then (nI 16000) else (s4.1 8 5)) then (if (nI 16000) < (s4.1 8 5) then (nI 16000) else (s4.1 8 5)) else (0 : Int32)) →
  (0 : Int32) = 0 ∧ (0 : Int32) = 0 ∧ ¬ (s5.1 9 5) < 0 ∧ (s5.1 9 5).toNatClampNeg ≤ 16000 ∧ (s5.1 9 5).toNatClampNeg ≤ 16000 ∧ (∀ i, i < (s5.1 9 5).toNatClampNeg → fits .short (.int (s5.1 32 i)) = true) ∧ ∀ s6 : zS, s6 = zsC s5 32 37 (s5.1 9 5).toNatClampNeg →
  ∀ s7 : zS, s7 = zsI s6 9 6 (s6.1 8 6) →
  ((1 : Int32) = 0 ∨ (1 : Int32) = 1) ∧ ∀ s8 : zS, s8 = zsI s7 9 7 (1 : Int32) →
  Q none s8
def LIX0_copy  : Nat → Nat → zLo → zS → Prop := fun t n l τ => False
def JIX0_copy  (Q : Option Value → zS → Prop) (QX : zS → Prop) : Nat → Option Nat → zLo → zS → Prop := fun t n l τ => False
set_option maxRecDepth 50000 in
theorem pX0_copy_0  (Q : Option Value → zS → Prop) (QX : zS → Prop)   (σ : zS) (h : PX0_copy_0  Q QX  σ) : zwp JX0_copy (zB hX0_copy (zKt jnX0_copy (JIX0_copy  Q QX) (LIX0_copy ) none 0)) Q QX kX0_copy 0 (lv_args 0 [.ref 9, .ref 8]) [] σ := h
set_option maxRecDepth 50000 in
theorem rX0_copy {Q : Option Value → zS → Prop} {QX : zS → Prop}  {σ : zS}   (h0 : PX0_copy_0  Q QX  σ) : zCT zZC zmX0_copy [.ref 9, .ref 8] σ Q QX := by
  refine zCT_of zZC_ok pnX0 (Nat.le_of_ble_eq_true rfl) kX0_copy ksX0_copy JX0_copy 1 (fun t ht => ?_) hX0_copy jnX0_copy (JIX0_copy  Q QX) (LIX0_copy ) (fun n t ln σ' ht hj hI => ?_) (fun m t ln σ' ht hj hI => ?_) (pX0_copy_0  Q QX  σ h0)
  · cases ht
  · cases ht
  · cases ht
def JX0_countOf : Nat → Bool := fun t => false && Nat.beq t 0
def jnX0_countOf : Nat → Bool := fun t => false && Nat.beq t 0
def hX0_countOf : Nat → List Nat := fun t => []
def PX0_countOf_0  (Q : Option Value → zS → Prop) (QX : zS → Prop) (a1 : Int32) (σ : zS) : Prop :=
  (((σ.1 9 7) = 0 →
    Q (some (.int (-1 : Int32))) σ) ∧ (¬ (σ.1 9 7) = 0 →
    ((a1 < 0 →
      Q (some (.int (-1 : Int32))) σ) ∧ (¬ a1 < 0 →
      (((nI 13) ≤ a1 →
        Q (some (.int (-1 : Int32))) σ) ∧ (¬ (nI 13) ≤ a1 →
        vp_in a1 13 ∧
        Q (some (.int (σ.1 33 a1.toNatClampNeg))) σ))))))
def LIX0_countOf  : Nat → Nat → zLo → zS → Prop := fun t n l τ => False
def JIX0_countOf  (Q : Option Value → zS → Prop) (QX : zS → Prop) : Nat → Option Nat → zLo → zS → Prop := fun t n l τ => False
set_option maxRecDepth 50000 in
theorem pX0_countOf_0  (Q : Option Value → zS → Prop) (QX : zS → Prop)  (a1 : Int32) (σ : zS) (h : PX0_countOf_0  Q QX a1 σ) : zwp JX0_countOf (zB hX0_countOf (zKt jnX0_countOf (JIX0_countOf  Q QX) (LIX0_countOf ) none 0)) Q QX kX0_countOf 0 (lv_args 0 [.ref 9, .int a1]) [] σ := h
set_option maxRecDepth 50000 in
theorem rX0_countOf {Q : Option Value → zS → Prop} {QX : zS → Prop} {a1 : Int32} {σ : zS}   (h0 : PX0_countOf_0  Q QX a1 σ) : zCT zZC zmX0_countOf [.ref 9, .int a1] σ Q QX := by
  refine zCT_of zZC_ok pnX0 (Nat.le_of_ble_eq_true rfl) kX0_countOf ksX0_countOf JX0_countOf 1 (fun t ht => ?_) hX0_countOf jnX0_countOf (JIX0_countOf  Q QX) (LIX0_countOf ) (fun n t ln σ' ht hj hI => ?_) (fun m t ln σ' ht hj hI => ?_) (pX0_countOf_0  Q QX a1 σ h0)
  · cases ht
  · cases ht
  · cases ht
def JX0_endBody : Nat → Bool := fun t => false && Nat.beq t 0
def jnX0_endBody : Nat → Bool := fun t => false && Nat.beq t 0
def hX0_endBody : Nat → List Nat := fun t => []
def PX0_endBody_0  (Q : Option Value → zS → Prop) (QX : zS → Prop) (a1 : Int32) (σ : zS) : Prop :=
  ((a1 < 0 →
    Q none σ) ∧ (¬ a1 < 0 →
    (((nI 64) ≤ a1 →
      Q none σ) ∧ (¬ (nI 64) ≤ a1 →
      vp_in a1 64 ∧
      vp_in a1 64 ∧ ∀ s1 : zS, s1 = zsI σ 30 a1.toNatClampNeg ((σ.1 8 5) - (σ.1 29 a1.toNatClampNeg)) →
      Q none s1))))
def LIX0_endBody  : Nat → Nat → zLo → zS → Prop := fun t n l τ => False
def JIX0_endBody  (Q : Option Value → zS → Prop) (QX : zS → Prop) : Nat → Option Nat → zLo → zS → Prop := fun t n l τ => False
set_option maxRecDepth 50000 in
theorem pX0_endBody_0  (Q : Option Value → zS → Prop) (QX : zS → Prop)  (a1 : Int32) (σ : zS) (h : PX0_endBody_0  Q QX a1 σ) : zwp JX0_endBody (zB hX0_endBody (zKt jnX0_endBody (JIX0_endBody  Q QX) (LIX0_endBody ) none 0)) Q QX kX0_endBody 0 (lv_args 0 [.ref 8, .int a1]) [] σ := h
set_option maxRecDepth 50000 in
theorem rX0_endBody {Q : Option Value → zS → Prop} {QX : zS → Prop} {a1 : Int32} {σ : zS}   (h0 : PX0_endBody_0  Q QX a1 σ) : zCT zZC zmX0_endBody [.ref 8, .int a1] σ Q QX := by
  refine zCT_of zZC_ok pnX0 (Nat.le_of_ble_eq_true rfl) kX0_endBody ksX0_endBody JX0_endBody 1 (fun t ht => ?_) hX0_endBody jnX0_endBody (JIX0_endBody  Q QX) (LIX0_endBody ) (fun n t ln σ' ht hj hI => ?_) (fun m t ln σ' ht hj hI => ?_) (pX0_endBody_0  Q QX a1 σ h0)
  · cases ht
  · cases ht
  · cases ht
def JX0_fillCounts : Nat → Bool := fun t => Nat.beq t 2
def jnX0_fillCounts : Nat → Bool := fun t => false && Nat.beq t 0
def hX0_fillCounts : Nat → List Nat := fun t => bif Nat.beq t 2 then [0, 1, 2] else []
def PX0_fillCounts_2 (K2 : Int32 → zS → Prop) (Q : Option Value → zS → Prop) (QX : zS → Prop) (x2 : Int32) (σ : zS) : Prop :=
  (((nI 13) ≤ x2 →
    vp_in (3 : Int32) 13 ∧
    ∀ s1 : zS, s1 = zsI σ 8 6 (σ.1 18 (3 : Int32).toNatClampNeg) →
    Q none s1) ∧ (¬ (nI 13) ≤ x2 →
    ((x2 < (1 : Int32) →
      (((0 : Int32) = 0 →
        vp_in x2 13 ∧ ∀ s2 : zS, s2 = zsI σ 28 x2.toNatClampNeg (-1 : Int32) →
        K2 (x2 + 1) s2) ∧ (¬ (0 : Int32) = 0 →
        vp_in x2 13 ∧
        vp_in x2 13 ∧ ∀ s3 : zS, s3 = zsI σ 28 x2.toNatClampNeg (σ.1 18 x2.toNatClampNeg) →
        K2 (x2 + 1) s3))) ∧ (¬ x2 < (1 : Int32) →
      (((11 : Int32) < x2 →
        (((0 : Int32) = 0 →
          vp_in x2 13 ∧ ∀ s4 : zS, s4 = zsI σ 28 x2.toNatClampNeg (-1 : Int32) →
          K2 (x2 + 1) s4) ∧ (¬ (0 : Int32) = 0 →
          vp_in x2 13 ∧
          vp_in x2 13 ∧ ∀ s5 : zS, s5 = zsI σ 28 x2.toNatClampNeg (σ.1 18 x2.toNatClampNeg) →
          K2 (x2 + 1) s5))) ∧ (¬ (11 : Int32) < x2 →
        ((x2 = (8 : Int32) →
          (((0 : Int32) = 0 →
            vp_in x2 13 ∧ ∀ s6 : zS, s6 = zsI σ 28 x2.toNatClampNeg (-1 : Int32) →
            K2 (x2 + 1) s6) ∧ (¬ (0 : Int32) = 0 →
            vp_in x2 13 ∧
            vp_in x2 13 ∧ ∀ s7 : zS, s7 = zsI σ 28 x2.toNatClampNeg (σ.1 18 x2.toNatClampNeg) →
            K2 (x2 + 1) s7))) ∧ (¬ x2 = (8 : Int32) →
          ((x2 = (10 : Int32) →
            (((0 : Int32) = 0 →
              vp_in x2 13 ∧ ∀ s8 : zS, s8 = zsI σ 28 x2.toNatClampNeg (-1 : Int32) →
              K2 (x2 + 1) s8) ∧ (¬ (0 : Int32) = 0 →
              vp_in x2 13 ∧
              vp_in x2 13 ∧ ∀ s9 : zS, s9 = zsI σ 28 x2.toNatClampNeg (σ.1 18 x2.toNatClampNeg) →
              K2 (x2 + 1) s9))) ∧ (¬ x2 = (10 : Int32) →
            (((1 : Int32) = 0 →
              vp_in x2 13 ∧ ∀ s10 : zS, s10 = zsI σ 28 x2.toNatClampNeg (-1 : Int32) →
              K2 (x2 + 1) s10) ∧ (¬ (1 : Int32) = 0 →
              vp_in x2 13 ∧
              vp_in x2 13 ∧ ∀ s11 : zS, s11 = zsI σ 28 x2.toNatClampNeg (σ.1 18 x2.toNatClampNeg) →
              K2 (x2 + 1) s11))))))))))))
def PX0_fillCounts_0 (K2 : Int32 → zS → Prop) (Q : Option Value → zS → Prop) (QX : zS → Prop)  (σ : zS) : Prop :=
  K2 (0 : Int32) σ
def LIX0_fillCounts (I2 : Nat → Int32 → zS → Prop) : Nat → Nat → zLo → zS → Prop := fun t n l τ => bif Nat.beq t 2 then zdR 0 8 (zdR 1 2 (zdI 2 (fun x2 => zdN (I2 n x2 τ)))) l else False
def JIX0_fillCounts (I2 : Nat → Int32 → zS → Prop) (Q : Option Value → zS → Prop) (QX : zS → Prop) : Nat → Option Nat → zLo → zS → Prop := fun t n l τ => False
set_option maxRecDepth 50000 in
theorem pX0_fillCounts_0 (I2 : Nat → Int32 → zS → Prop) (Q : Option Value → zS → Prop) (QX : zS → Prop)   (σ : zS) (h : PX0_fillCounts_0 (fun y2 τ => ∃ n', zlt n' none ∧ I2 n' y2 τ) Q QX  σ) : zwp JX0_fillCounts (zB hX0_fillCounts (zKt jnX0_fillCounts (JIX0_fillCounts I2 Q QX) (LIX0_fillCounts I2) none 0)) Q QX kX0_fillCounts 0 (lv_args 0 [.ref 8, .ref 2]) [] σ := h
set_option maxRecDepth 50000 in
theorem pX0_fillCounts_2 (I2 : Nat → Int32 → zS → Prop) (Q : Option Value → zS → Prop) (QX : zS → Prop) (m : Nat) (x2 : Int32) (σ : zS) (h : PX0_fillCounts_2 (fun y2 τ => ∃ n', zlt n' (some m) ∧ I2 n' y2 τ) Q QX x2 σ) : zwp JX0_fillCounts (zB hX0_fillCounts (zKt jnX0_fillCounts (JIX0_fillCounts I2 Q QX) (LIX0_fillCounts I2) (some m) 2)) Q QX kX0_fillCounts 2 [(0, .ref 8), (1, .ref 2), (2, .int x2)] [] σ := h
set_option maxRecDepth 50000 in
theorem rX0_fillCounts {Q : Option Value → zS → Prop} {QX : zS → Prop}  {σ : zS} (I2 : Nat → Int32 → zS → Prop) (hs2 : ∀ (m : Nat) (x2 : Int32) (σ : zS), I2 m x2 σ → PX0_fillCounts_2 (fun y2 τ => ∃ n', zlt n' (some m) ∧ I2 n' y2 τ) Q QX x2 σ) (h0 : PX0_fillCounts_0 (fun y2 τ => ∃ n', zlt n' none ∧ I2 n' y2 τ) Q QX  σ) : zCT zZC zmX0_fillCounts [.ref 8, .ref 2] σ Q QX := by
  refine zCT_of zZC_ok pnX0 (Nat.le_of_ble_eq_true rfl) kX0_fillCounts ksX0_fillCounts JX0_fillCounts 3 (fun t ht => ?_) hX0_fillCounts jnX0_fillCounts (JIX0_fillCounts I2 Q QX) (LIX0_fillCounts I2) (fun n t ln σ' ht hj hI => ?_) (fun m t ln σ' ht hj hI => ?_) (pX0_fillCounts_0 I2 Q QX  σ h0)
  · have et := Nat.eq_of_beq_eq_true ht; subst et
    exact Nat.le_of_ble_eq_true rfl
  · have et := Nat.eq_of_beq_eq_true ht; subst et
    cases hj
  · have et := Nat.eq_of_beq_eq_true ht; subst et
    have hI : LIX0_fillCounts I2 2 m ln σ' := hI
    obtain ⟨l0, e0, hI⟩ := zdR_e (i := 0) (q := 8) hI; subst e0
    obtain ⟨l1, e1, hI⟩ := zdR_e (i := 1) (q := 2) hI; subst e1
    obtain ⟨x2, l2, e2, hI⟩ := zdI_e (i := 2) hI; subst e2
    obtain ⟨e, hI⟩ := zdN_e hI; subst e
    exact pX0_fillCounts_2 I2 Q QX m x2 σ' (hs2 m x2 σ' hI)
def JX0_has : Nat → Bool := fun t => false && Nat.beq t 0
def jnX0_has : Nat → Bool := fun t => false && Nat.beq t 0
def hX0_has : Nat → List Nat := fun t => []
def PX0_has_0  (Q : Option Value → zS → Prop) (QX : zS → Prop) (a1 : Int32) (σ : zS) : Prop :=
  ((a1 < 0 →
    ((0 : Int32) = 0 ∨ (0 : Int32) = 1) ∧ Q (some (.int (0 : Int32))) σ) ∧ (¬ a1 < 0 →
    (((σ.1 9 6) ≤ a1 →
      ((0 : Int32) = 0 ∨ (0 : Int32) = 1) ∧ Q (some (.int (0 : Int32))) σ) ∧ (¬ (σ.1 9 6) ≤ a1 →
      (((nI 64) ≤ a1 →
        ((0 : Int32) = 0 ∨ (0 : Int32) = 1) ∧ Q (some (.int (0 : Int32))) σ) ∧ (¬ (nI 64) ≤ a1 →
        ((1 : Int32) = 0 ∨ (1 : Int32) = 1) ∧ Q (some (.int (1 : Int32))) σ))))))
def LIX0_has  : Nat → Nat → zLo → zS → Prop := fun t n l τ => False
def JIX0_has  (Q : Option Value → zS → Prop) (QX : zS → Prop) : Nat → Option Nat → zLo → zS → Prop := fun t n l τ => False
set_option maxRecDepth 50000 in
theorem pX0_has_0  (Q : Option Value → zS → Prop) (QX : zS → Prop)  (a1 : Int32) (σ : zS) (h : PX0_has_0  Q QX a1 σ) : zwp JX0_has (zB hX0_has (zKt jnX0_has (JIX0_has  Q QX) (LIX0_has ) none 0)) Q QX kX0_has 0 (lv_args 0 [.ref 9, .int a1]) [] σ := h
set_option maxRecDepth 50000 in
theorem rX0_has {Q : Option Value → zS → Prop} {QX : zS → Prop} {a1 : Int32} {σ : zS}   (h0 : PX0_has_0  Q QX a1 σ) : zCT zZC zmX0_has [.ref 9, .int a1] σ Q QX := by
  refine zCT_of zZC_ok pnX0 (Nat.le_of_ble_eq_true rfl) kX0_has ksX0_has JX0_has 1 (fun t ht => ?_) hX0_has jnX0_has (JIX0_has  Q QX) (LIX0_has ) (fun n t ln σ' ht hj hI => ?_) (fun m t ln σ' ht hj hI => ?_) (pX0_has_0  Q QX a1 σ h0)
  · cases ht
  · cases ht
  · cases ht
def JX1_begin : Nat → Bool := fun t => false && Nat.beq t 0
def jnX1_begin : Nat → Bool := fun t => false && Nat.beq t 0
def hX1_begin : Nat → List Nat := fun t => []
def PX1_begin_0  (Q : Option Value → zS → Prop) (QX : zS → Prop)  (σ : zS) : Prop :=
  ∀ s1 : zS, s1 = zsI σ 8 5 (0 : Int32) →
  ((1 : Int32) = 0 ∨ (1 : Int32) = 1) ∧ ∀ s2 : zS, s2 = zsI s1 4 6 (1 : Int32) →
  Q none s2
def LIX1_begin  : Nat → Nat → zLo → zS → Prop := fun t n l τ => False
def JIX1_begin  (Q : Option Value → zS → Prop) (QX : zS → Prop) : Nat → Option Nat → zLo → zS → Prop := fun t n l τ => False
set_option maxRecDepth 50000 in
theorem pX1_begin_0  (Q : Option Value → zS → Prop) (QX : zS → Prop)   (σ : zS) (h : PX1_begin_0  Q QX  σ) : zwp JX1_begin (zB hX1_begin (zKt jnX1_begin (JIX1_begin  Q QX) (LIX1_begin ) none 0)) Q QX kX1_begin 0 (lv_args 0 [.ref 4]) [] σ := h
set_option maxRecDepth 50000 in
theorem rX1_begin {Q : Option Value → zS → Prop} {QX : zS → Prop}  {σ : zS}   (h0 : PX1_begin_0  Q QX  σ) : zCT zZC zmX1_begin [.ref 4] σ Q QX := by
  refine zCT_of zZC_ok pnX1 (Nat.le_of_ble_eq_true rfl) kX1_begin ksX1_begin JX1_begin 1 (fun t ht => ?_) hX1_begin jnX1_begin (JIX1_begin  Q QX) (LIX1_begin ) (fun n t ln σ' ht hj hI => ?_) (fun m t ln σ' ht hj hI => ?_) (pX1_begin_0  Q QX  σ h0)
  · cases ht
  · cases ht
  · cases ht
def JX2_addFunction : Nat → Bool := fun t => false && Nat.beq t 0
def jnX2_addFunction : Nat → Bool := fun t => false && Nat.beq t 0
def hX2_addFunction : Nat → List Nat := fun t => []
def PX2_addFunction_0  (Q : Option Value → zS → Prop) (QX : zS → Prop) (a1 : Int64) (σ : zS) : Prop :=
  (((nI 96) ≤ (σ.1 2 8) →
    Q none σ) ∧ (¬ (nI 96) ≤ (σ.1 2 8) →
    vp_in (1 : Int32) 13 ∧
    ((((σ.1 18 (1 : Int32).toNatClampNeg).toInt64) ≤ a1 →
      vp_in (σ.1 2 8) 96 ∧ ∀ s1 : zS, s1 = zsI σ 14 (σ.1 2 8).toNatClampNeg (-1 : Int32) →
      ∀ s2 : zS, s2 = zsI s1 2 8 ((s1.1 2 8) + (1 : Int32)) →
      Q none s2) ∧ (¬ ((σ.1 18 (1 : Int32).toNatClampNeg).toInt64) ≤ a1 →
      vp_in (σ.1 2 8) 96 ∧ ∀ s3 : zS, s3 = zsI σ 14 (σ.1 2 8).toNatClampNeg (a1.toInt32) →
      ∀ s4 : zS, s4 = zsI s3 2 8 ((s3.1 2 8) + (1 : Int32)) →
      Q none s4))))
def LIX2_addFunction  : Nat → Nat → zLo → zS → Prop := fun t n l τ => False
def JIX2_addFunction  (Q : Option Value → zS → Prop) (QX : zS → Prop) : Nat → Option Nat → zLo → zS → Prop := fun t n l τ => False
set_option maxRecDepth 50000 in
theorem pX2_addFunction_0  (Q : Option Value → zS → Prop) (QX : zS → Prop)  (a1 : Int64) (σ : zS) (h : PX2_addFunction_0  Q QX a1 σ) : zwp JX2_addFunction (zB hX2_addFunction (zKt jnX2_addFunction (JIX2_addFunction  Q QX) (LIX2_addFunction ) none 0)) Q QX kX2_addFunction 0 (lv_args 0 [.ref 2, .long a1]) [] σ := h
set_option maxRecDepth 50000 in
theorem rX2_addFunction {Q : Option Value → zS → Prop} {QX : zS → Prop} {a1 : Int64} {σ : zS}   (h0 : PX2_addFunction_0  Q QX a1 σ) : zCT zZC zmX2_addFunction [.ref 2, .long a1] σ Q QX := by
  refine zCT_of zZC_ok pnX2 (Nat.le_of_ble_eq_true rfl) kX2_addFunction ksX2_addFunction JX2_addFunction 1 (fun t ht => ?_) hX2_addFunction jnX2_addFunction (JIX2_addFunction  Q QX) (LIX2_addFunction ) (fun n t ln σ' ht hj hI => ?_) (fun m t ln σ' ht hj hI => ?_) (pX2_addFunction_0  Q QX a1 σ h0)
  · cases ht
  · cases ht
  · cases ht
def JX2_addGlobal : Nat → Bool := fun t => false && Nat.beq t 0
def jnX2_addGlobal : Nat → Bool := fun t => false && Nat.beq t 0
def hX2_addGlobal : Nat → List Nat := fun t => []
def PX2_addGlobal_0  (Q : Option Value → zS → Prop) (QX : zS → Prop) (a1 : Int32) (a2 : Int32) (σ : zS) : Prop :=
  (((nI 64) ≤ (σ.1 2 12) →
    Q none σ) ∧ (¬ (nI 64) ≤ (σ.1 2 12) →
    vp_in (σ.1 2 12) 64 ∧ ∀ s1 : zS, s1 = zsI σ 15 (σ.1 2 12).toNatClampNeg a1 →
    vp_in (s1.1 2 12) 64 ∧ ∀ s2 : zS, s2 = zsI s1 16 (s1.1 2 12).toNatClampNeg (vp_nar .boolean a2) →
    ∀ s3 : zS, s3 = zsI s2 2 12 ((s2.1 2 12) + (1 : Int32)) →
    Q none s3))
def LIX2_addGlobal  : Nat → Nat → zLo → zS → Prop := fun t n l τ => False
def JIX2_addGlobal  (Q : Option Value → zS → Prop) (QX : zS → Prop) : Nat → Option Nat → zLo → zS → Prop := fun t n l τ => False
set_option maxRecDepth 50000 in
theorem pX2_addGlobal_0  (Q : Option Value → zS → Prop) (QX : zS → Prop)  (a1 : Int32) (a2 : Int32) (σ : zS) (h : PX2_addGlobal_0  Q QX a1 a2 σ) : zwp JX2_addGlobal (zB hX2_addGlobal (zKt jnX2_addGlobal (JIX2_addGlobal  Q QX) (LIX2_addGlobal ) none 0)) Q QX kX2_addGlobal 0 (lv_args 0 [.ref 2, .int a1, .int a2]) [] σ := h
set_option maxRecDepth 50000 in
theorem rX2_addGlobal {Q : Option Value → zS → Prop} {QX : zS → Prop} {a1 : Int32} {a2 : Int32} {σ : zS}   (h0 : PX2_addGlobal_0  Q QX a1 a2 σ) : zCT zZC zmX2_addGlobal [.ref 2, .int a1, .int a2] σ Q QX := by
  refine zCT_of zZC_ok pnX2 (Nat.le_of_ble_eq_true rfl) kX2_addGlobal ksX2_addGlobal JX2_addGlobal 1 (fun t ht => ?_) hX2_addGlobal jnX2_addGlobal (JIX2_addGlobal  Q QX) (LIX2_addGlobal ) (fun n t ln σ' ht hj hI => ?_) (fun m t ln σ' ht hj hI => ?_) (pX2_addGlobal_0  Q QX a1 a2 σ h0)
  · cases ht
  · cases ht
  · cases ht
def JX2_addParameter : Nat → Bool := fun t => false && Nat.beq t 0
def jnX2_addParameter : Nat → Bool := fun t => false && Nat.beq t 0
def hX2_addParameter : Nat → List Nat := fun t => []
def PX2_addParameter_0  (Q : Option Value → zS → Prop) (QX : zS → Prop) (a1 : Int32) (a2 : Int32) (σ : zS) : Prop :=
  vp_in (1 : Int32) 13 ∧
  (((nI 64) ≤ (σ.1 18 (1 : Int32).toNatClampNeg) →
    Q none σ) ∧ (¬ (nI 64) ≤ (σ.1 18 (1 : Int32).toNatClampNeg) →
    (((16 : Int32) ≤ a1 →
      Q none σ) ∧ (¬ (16 : Int32) ≤ a1 →
      (((nI 1024) ≤ (((σ.1 18 (1 : Int32).toNatClampNeg) * (16 : Int32)) + a1) →
        Q none σ) ∧ (¬ (nI 1024) ≤ (((σ.1 18 (1 : Int32).toNatClampNeg) * (16 : Int32)) + a1) →
        vp_in (((σ.1 18 (1 : Int32).toNatClampNeg) * (16 : Int32)) + a1) 1024 ∧ ∀ s1 : zS, s1 = zsI σ 12 (((σ.1 18 (1 : Int32).toNatClampNeg) * (16 : Int32)) + a1).toNatClampNeg a2 →
        vp_in (σ.1 18 (1 : Int32).toNatClampNeg) 64 ∧ ∀ s2 : zS, s2 = zsI s1 11 (σ.1 18 (1 : Int32).toNatClampNeg).toNatClampNeg (a1 + (1 : Int32)) →
        Q none s2))))))
def LIX2_addParameter  : Nat → Nat → zLo → zS → Prop := fun t n l τ => False
def JIX2_addParameter  (Q : Option Value → zS → Prop) (QX : zS → Prop) : Nat → Option Nat → zLo → zS → Prop := fun t n l τ => False
set_option maxRecDepth 50000 in
theorem pX2_addParameter_0  (Q : Option Value → zS → Prop) (QX : zS → Prop)  (a1 : Int32) (a2 : Int32) (σ : zS) (h : PX2_addParameter_0  Q QX a1 a2 σ) : zwp JX2_addParameter (zB hX2_addParameter (zKt jnX2_addParameter (JIX2_addParameter  Q QX) (LIX2_addParameter ) none 0)) Q QX kX2_addParameter 0 (lv_args 0 [.ref 2, .int a1, .int a2]) [] σ := h
set_option maxRecDepth 50000 in
theorem rX2_addParameter {Q : Option Value → zS → Prop} {QX : zS → Prop} {a1 : Int32} {a2 : Int32} {σ : zS}   (h0 : PX2_addParameter_0  Q QX a1 a2 σ) : zCT zZC zmX2_addParameter [.ref 2, .int a1, .int a2] σ Q QX := by
  refine zCT_of zZC_ok pnX2 (Nat.le_of_ble_eq_true rfl) kX2_addParameter ksX2_addParameter JX2_addParameter 1 (fun t ht => ?_) hX2_addParameter jnX2_addParameter (JIX2_addParameter  Q QX) (LIX2_addParameter ) (fun n t ln σ' ht hj hI => ?_) (fun m t ln σ' ht hj hI => ?_) (pX2_addParameter_0  Q QX a1 a2 σ h0)
  · cases ht
  · cases ht
  · cases ht
def JX2_changesGlobal : Nat → Bool := fun t => false && Nat.beq t 0
def jnX2_changesGlobal : Nat → Bool := fun t => false && Nat.beq t 0
def hX2_changesGlobal : Nat → List Nat := fun t => []
def PX2_changesGlobal_0  (Q : Option Value → zS → Prop) (QX : zS → Prop) (a1 : Int32) (σ : zS) : Prop :=
  ((a1 < 0 →
    ((0 : Int32) = 0 ∨ (0 : Int32) = 1) ∧ Q (some (.int (0 : Int32))) σ) ∧ (¬ a1 < 0 →
    (((nI 64) ≤ a1 →
      ((0 : Int32) = 0 ∨ (0 : Int32) = 1) ∧ Q (some (.int (0 : Int32))) σ) ∧ (¬ (nI 64) ≤ a1 →
      vp_in a1 64 ∧
      (((σ.1 16 a1.toNatClampNeg) = 0 →
        ((0 : Int32) = 0 ∨ (0 : Int32) = 1) ∧ Q (some (.int (0 : Int32))) σ) ∧ (¬ (σ.1 16 a1.toNatClampNeg) = 0 →
        ((1 : Int32) = 0 ∨ (1 : Int32) = 1) ∧ Q (some (.int (1 : Int32))) σ))))))
def LIX2_changesGlobal  : Nat → Nat → zLo → zS → Prop := fun t n l τ => False
def JIX2_changesGlobal  (Q : Option Value → zS → Prop) (QX : zS → Prop) : Nat → Option Nat → zLo → zS → Prop := fun t n l τ => False
set_option maxRecDepth 50000 in
theorem pX2_changesGlobal_0  (Q : Option Value → zS → Prop) (QX : zS → Prop)  (a1 : Int32) (σ : zS) (h : PX2_changesGlobal_0  Q QX a1 σ) : zwp JX2_changesGlobal (zB hX2_changesGlobal (zKt jnX2_changesGlobal (JIX2_changesGlobal  Q QX) (LIX2_changesGlobal ) none 0)) Q QX kX2_changesGlobal 0 (lv_args 0 [.ref 2, .int a1]) [] σ := h
set_option maxRecDepth 50000 in
theorem rX2_changesGlobal {Q : Option Value → zS → Prop} {QX : zS → Prop} {a1 : Int32} {σ : zS}   (h0 : PX2_changesGlobal_0  Q QX a1 σ) : zCT zZC zmX2_changesGlobal [.ref 2, .int a1] σ Q QX := by
  refine zCT_of zZC_ok pnX2 (Nat.le_of_ble_eq_true rfl) kX2_changesGlobal ksX2_changesGlobal JX2_changesGlobal 1 (fun t ht => ?_) hX2_changesGlobal jnX2_changesGlobal (JIX2_changesGlobal  Q QX) (LIX2_changesGlobal ) (fun n t ln σ' ht hj hI => ?_) (fun m t ln σ' ht hj hI => ?_) (pX2_changesGlobal_0  Q QX a1 σ h0)
  · cases ht
  · cases ht
  · cases ht
def JX2_clear : Nat → Bool := fun t => Nat.beq t 2 || Nat.beq t 26
def jnX2_clear : Nat → Bool := fun t => false && Nat.beq t 0
def hX2_clear : Nat → List Nat := fun t => bif Nat.beq t 2 then [0, 1] else bif Nat.beq t 26 then [0, 1] else []
def PX2_clear_26 (K2 : Int32 → zS → Prop) (K26 : Int32 → zS → Prop) (Q : Option Value → zS → Prop) (QX : zS → Prop) (x1 : Int32) (σ : zS) : Prop :=
  (((nI 13) ≤ x1 →
    ∀ s1 : zS, s1 = zsI σ 2 8 (0 : Int32) →
    ∀ s2 : zS, s2 = zsI s1 2 9 (0 : Int32) →
    ∀ s3 : zS, s3 = zsI s2 2 10 (0 : Int32) →
    ∀ s4 : zS, s4 = zsI s3 2 11 (0 : Int32) →
    ∀ s5 : zS, s5 = zsI s4 2 12 (0 : Int32) →
    ∀ s6 : zS, s6 = zsI s5 2 13 (0 : Int32) →
    ∀ s7 : zS, s7 = zsL s6 2 14 (-1 : Int64) →
    Q none s7) ∧ (¬ (nI 13) ≤ x1 →
    vp_in x1 13 ∧ ∀ s8 : zS, s8 = zsI σ 18 x1.toNatClampNeg (0 : Int32) →
    K26 (x1 + 1) s8))
def PX2_clear_2 (K2 : Int32 → zS → Prop) (K26 : Int32 → zS → Prop) (Q : Option Value → zS → Prop) (QX : zS → Prop) (x1 : Int32) (σ : zS) : Prop :=
  (((nI 16) ≤ x1 →
    K26 (0 : Int32) σ) ∧ (¬ (nI 16) ≤ x1 →
    vp_in x1 16 ∧ ∀ s1 : zS, s1 = zsI σ 17 x1.toNatClampNeg (-1 : Int32) →
    K2 (x1 + 1) s1))
def PX2_clear_0 (K2 : Int32 → zS → Prop) (K26 : Int32 → zS → Prop) (Q : Option Value → zS → Prop) (QX : zS → Prop)  (σ : zS) : Prop :=
  K2 (0 : Int32) σ
def LIX2_clear (I2 : Nat → Int32 → zS → Prop) (I26 : Nat → Int32 → zS → Prop) : Nat → Nat → zLo → zS → Prop := fun t n l τ => bif Nat.beq t 2 then zdR 0 2 (zdI 1 (fun x1 => zdN (I2 n x1 τ))) l else bif Nat.beq t 26 then zdR 0 2 (zdI 1 (fun x1 => zdN (I26 n x1 τ))) l else False
def JIX2_clear (I2 : Nat → Int32 → zS → Prop) (I26 : Nat → Int32 → zS → Prop) (Q : Option Value → zS → Prop) (QX : zS → Prop) : Nat → Option Nat → zLo → zS → Prop := fun t n l τ => False
set_option maxRecDepth 50000 in
theorem pX2_clear_0 (I2 : Nat → Int32 → zS → Prop) (I26 : Nat → Int32 → zS → Prop) (Q : Option Value → zS → Prop) (QX : zS → Prop)   (σ : zS) (h : PX2_clear_0 (fun y1 τ => ∃ n', zlt n' none ∧ I2 n' y1 τ) (fun y1 τ => ∃ n', zlt n' none ∧ I26 n' y1 τ) Q QX  σ) : zwp JX2_clear (zB hX2_clear (zKt jnX2_clear (JIX2_clear I2 I26 Q QX) (LIX2_clear I2 I26) none 0)) Q QX kX2_clear 0 (lv_args 0 [.ref 2]) [] σ := h
set_option maxRecDepth 50000 in
theorem pX2_clear_2 (I2 : Nat → Int32 → zS → Prop) (I26 : Nat → Int32 → zS → Prop) (Q : Option Value → zS → Prop) (QX : zS → Prop) (m : Nat) (x1 : Int32) (σ : zS) (h : PX2_clear_2 (fun y1 τ => ∃ n', zlt n' (some m) ∧ I2 n' y1 τ) (fun y1 τ => ∃ n', zlt n' (some m) ∧ I26 n' y1 τ) Q QX x1 σ) : zwp JX2_clear (zB hX2_clear (zKt jnX2_clear (JIX2_clear I2 I26 Q QX) (LIX2_clear I2 I26) (some m) 2)) Q QX kX2_clear 2 [(0, .ref 2), (1, .int x1)] [] σ := h
set_option maxRecDepth 50000 in
theorem pX2_clear_26 (I2 : Nat → Int32 → zS → Prop) (I26 : Nat → Int32 → zS → Prop) (Q : Option Value → zS → Prop) (QX : zS → Prop) (m : Nat) (x1 : Int32) (σ : zS) (h : PX2_clear_26 (fun y1 τ => ∃ n', zlt n' (some m) ∧ I2 n' y1 τ) (fun y1 τ => ∃ n', zlt n' (some m) ∧ I26 n' y1 τ) Q QX x1 σ) : zwp JX2_clear (zB hX2_clear (zKt jnX2_clear (JIX2_clear I2 I26 Q QX) (LIX2_clear I2 I26) (some m) 26)) Q QX kX2_clear 26 [(0, .ref 2), (1, .int x1)] [] σ := h
set_option maxRecDepth 50000 in
theorem rX2_clear {Q : Option Value → zS → Prop} {QX : zS → Prop}  {σ : zS} (I2 : Nat → Int32 → zS → Prop) (I26 : Nat → Int32 → zS → Prop) (hs2 : ∀ (m : Nat) (x1 : Int32) (σ : zS), I2 m x1 σ → PX2_clear_2 (fun y1 τ => ∃ n', zlt n' (some m) ∧ I2 n' y1 τ) (fun y1 τ => ∃ n', zlt n' (some m) ∧ I26 n' y1 τ) Q QX x1 σ) (hs26 : ∀ (m : Nat) (x1 : Int32) (σ : zS), I26 m x1 σ → PX2_clear_26 (fun y1 τ => ∃ n', zlt n' (some m) ∧ I2 n' y1 τ) (fun y1 τ => ∃ n', zlt n' (some m) ∧ I26 n' y1 τ) Q QX x1 σ) (h0 : PX2_clear_0 (fun y1 τ => ∃ n', zlt n' none ∧ I2 n' y1 τ) (fun y1 τ => ∃ n', zlt n' none ∧ I26 n' y1 τ) Q QX  σ) : zCT zZC zmX2_clear [.ref 2] σ Q QX := by
  refine zCT_of zZC_ok pnX2 (Nat.le_of_ble_eq_true rfl) kX2_clear ksX2_clear JX2_clear 27 (fun t ht => ?_) hX2_clear jnX2_clear (JIX2_clear I2 I26 Q QX) (LIX2_clear I2 I26) (fun n t ln σ' ht hj hI => ?_) (fun m t ln σ' ht hj hI => ?_) (pX2_clear_0 I2 I26 Q QX  σ h0)
  · refine zor ht (fun ht => ?_) (fun ht => ?_)
    · skip
      have et := Nat.eq_of_beq_eq_true ht; subst et
      exact Nat.le_of_ble_eq_true rfl
    · skip
      have et := Nat.eq_of_beq_eq_true ht; subst et
      exact Nat.le_of_ble_eq_true rfl
  · refine zor ht (fun ht => ?_) (fun ht => ?_)
    · skip
      have et := Nat.eq_of_beq_eq_true ht; subst et
      cases hj
    · skip
      have et := Nat.eq_of_beq_eq_true ht; subst et
      cases hj
  · refine zor ht (fun ht => ?_) (fun ht => ?_)
    · skip
      have et := Nat.eq_of_beq_eq_true ht; subst et
      have hI : LIX2_clear I2 I26 2 m ln σ' := hI
      obtain ⟨l0, e0, hI⟩ := zdR_e (i := 0) (q := 2) hI; subst e0
      obtain ⟨x1, l1, e1, hI⟩ := zdI_e (i := 1) hI; subst e1
      obtain ⟨e, hI⟩ := zdN_e hI; subst e
      exact pX2_clear_2 I2 I26 Q QX m x1 σ' (hs2 m x1 σ' hI)
    · skip
      have et := Nat.eq_of_beq_eq_true ht; subst et
      have hI : LIX2_clear I2 I26 26 m ln σ' := hI
      obtain ⟨l0, e0, hI⟩ := zdR_e (i := 0) (q := 2) hI; subst e0
      obtain ⟨x1, l1, e1, hI⟩ := zdI_e (i := 1) hI; subst e1
      obtain ⟨e, hI⟩ := zdN_e hI; subst e
      exact pX2_clear_26 I2 I26 Q QX m x1 σ' (hs26 m x1 σ' hI)
def JX2_countOfKind : Nat → Bool := fun t => false && Nat.beq t 0
def jnX2_countOfKind : Nat → Bool := fun t => false && Nat.beq t 0
def hX2_countOfKind : Nat → List Nat := fun t => []
def PX2_countOfKind_0  (Q : Option Value → zS → Prop) (QX : zS → Prop) (a1 : Int32) (σ : zS) : Prop :=
  ((a1 = 0 →
    Q (some (.int (σ.1 2 8))) σ) ∧ (¬ a1 = 0 →
  ((a1 = 1 →
    Q (some (.int (σ.1 2 10))) σ) ∧ (¬ a1 = 1 →
  ((a1 = 2 →
    Q (some (.int (σ.1 2 11))) σ) ∧ (¬ a1 = 2 →
    Q (some (.int (σ.1 2 12))) σ))))))
def LIX2_countOfKind  : Nat → Nat → zLo → zS → Prop := fun t n l τ => False
def JIX2_countOfKind  (Q : Option Value → zS → Prop) (QX : zS → Prop) : Nat → Option Nat → zLo → zS → Prop := fun t n l τ => False
set_option maxRecDepth 50000 in
theorem pX2_countOfKind_0  (Q : Option Value → zS → Prop) (QX : zS → Prop)  (a1 : Int32) (σ : zS) (h : PX2_countOfKind_0  Q QX a1 σ) : zwp JX2_countOfKind (zB hX2_countOfKind (zKt jnX2_countOfKind (JIX2_countOfKind  Q QX) (LIX2_countOfKind ) none 0)) Q QX kX2_countOfKind 0 (lv_args 0 [.ref 2, .int a1]) [] σ := h
set_option maxRecDepth 50000 in
theorem rX2_countOfKind {Q : Option Value → zS → Prop} {QX : zS → Prop} {a1 : Int32} {σ : zS}   (h0 : PX2_countOfKind_0  Q QX a1 σ) : zCT zZC zmX2_countOfKind [.ref 2, .int a1] σ Q QX := by
  refine zCT_of zZC_ok pnX2 (Nat.le_of_ble_eq_true rfl) kX2_countOfKind ksX2_countOfKind JX2_countOfKind 1 (fun t ht => ?_) hX2_countOfKind jnX2_countOfKind (JIX2_countOfKind  Q QX) (LIX2_countOfKind ) (fun n t ln σ' ht hj hI => ?_) (fun m t ln σ' ht hj hI => ?_) (pX2_countOfKind_0  Q QX a1 σ h0)
  · cases ht
  · cases ht
  · cases ht
def JX2_firstWrong : Nat → Bool := fun t => Nat.beq t 2
def jnX2_firstWrong : Nat → Bool := fun t => false && Nat.beq t 0
def hX2_firstWrong : Nat → List Nat := fun t => bif Nat.beq t 2 then [0, 1] else []
def PX2_firstWrong_2 (K2 : Int32 → zS → Prop) (Q : Option Value → zS → Prop) (QX : zS → Prop) (x1 : Int32) (σ : zS) : Prop :=
  (((nI 16) ≤ x1 →
    Q (some (.int (-1 : Int32))) σ) ∧ (¬ (nI 16) ≤ x1 →
    vp_in x1 16 ∧
    (((σ.1 17 x1.toNatClampNeg) < 0 →
      K2 (x1 + 1) σ) ∧ (¬ (σ.1 17 x1.toNatClampNeg) < 0 →
      vp_in x1 16 ∧
      Q (some (.int (σ.1 17 x1.toNatClampNeg))) σ))))
def PX2_firstWrong_0 (K2 : Int32 → zS → Prop) (Q : Option Value → zS → Prop) (QX : zS → Prop)  (σ : zS) : Prop :=
  K2 (0 : Int32) σ
def LIX2_firstWrong (I2 : Nat → Int32 → zS → Prop) : Nat → Nat → zLo → zS → Prop := fun t n l τ => bif Nat.beq t 2 then zdR 0 2 (zdI 1 (fun x1 => zdN (I2 n x1 τ))) l else False
def JIX2_firstWrong (I2 : Nat → Int32 → zS → Prop) (Q : Option Value → zS → Prop) (QX : zS → Prop) : Nat → Option Nat → zLo → zS → Prop := fun t n l τ => False
set_option maxRecDepth 50000 in
theorem pX2_firstWrong_0 (I2 : Nat → Int32 → zS → Prop) (Q : Option Value → zS → Prop) (QX : zS → Prop)   (σ : zS) (h : PX2_firstWrong_0 (fun y1 τ => ∃ n', zlt n' none ∧ I2 n' y1 τ) Q QX  σ) : zwp JX2_firstWrong (zB hX2_firstWrong (zKt jnX2_firstWrong (JIX2_firstWrong I2 Q QX) (LIX2_firstWrong I2) none 0)) Q QX kX2_firstWrong 0 (lv_args 0 [.ref 2]) [] σ := h
set_option maxRecDepth 50000 in
theorem pX2_firstWrong_2 (I2 : Nat → Int32 → zS → Prop) (Q : Option Value → zS → Prop) (QX : zS → Prop) (m : Nat) (x1 : Int32) (σ : zS) (h : PX2_firstWrong_2 (fun y1 τ => ∃ n', zlt n' (some m) ∧ I2 n' y1 τ) Q QX x1 σ) : zwp JX2_firstWrong (zB hX2_firstWrong (zKt jnX2_firstWrong (JIX2_firstWrong I2 Q QX) (LIX2_firstWrong I2) (some m) 2)) Q QX kX2_firstWrong 2 [(0, .ref 2), (1, .int x1)] [] σ := h
set_option maxRecDepth 50000 in
theorem rX2_firstWrong {Q : Option Value → zS → Prop} {QX : zS → Prop}  {σ : zS} (I2 : Nat → Int32 → zS → Prop) (hs2 : ∀ (m : Nat) (x1 : Int32) (σ : zS), I2 m x1 σ → PX2_firstWrong_2 (fun y1 τ => ∃ n', zlt n' (some m) ∧ I2 n' y1 τ) Q QX x1 σ) (h0 : PX2_firstWrong_0 (fun y1 τ => ∃ n', zlt n' none ∧ I2 n' y1 τ) Q QX  σ) : zCT zZC zmX2_firstWrong [.ref 2] σ Q QX := by
  refine zCT_of zZC_ok pnX2 (Nat.le_of_ble_eq_true rfl) kX2_firstWrong ksX2_firstWrong JX2_firstWrong 3 (fun t ht => ?_) hX2_firstWrong jnX2_firstWrong (JIX2_firstWrong I2 Q QX) (LIX2_firstWrong I2) (fun n t ln σ' ht hj hI => ?_) (fun m t ln σ' ht hj hI => ?_) (pX2_firstWrong_0 I2 Q QX  σ h0)
  · have et := Nat.eq_of_beq_eq_true ht; subst et
    exact Nat.le_of_ble_eq_true rfl
  · have et := Nat.eq_of_beq_eq_true ht; subst et
    cases hj
  · have et := Nat.eq_of_beq_eq_true ht; subst et
    have hI : LIX2_firstWrong I2 2 m ln σ' := hI
    obtain ⟨l0, e0, hI⟩ := zdR_e (i := 0) (q := 2) hI; subst e0
    obtain ⟨x1, l1, e1, hI⟩ := zdI_e (i := 1) hI; subst e1
    obtain ⟨e, hI⟩ := zdN_e hI; subst e
    exact pX2_firstWrong_2 I2 Q QX m x1 σ' (hs2 m x1 σ' hI)
def JX2_noteWrong : Nat → Bool := fun t => false && Nat.beq t 0
def jnX2_noteWrong : Nat → Bool := fun t => false && Nat.beq t 0
def hX2_noteWrong : Nat → List Nat := fun t => []
def PX2_noteWrong_0  (Q : Option Value → zS → Prop) (QX : zS → Prop) (a1 : Int32) (a2 : Int32) (σ : zS) : Prop :=
  ((a1 < 0 →
    Q none σ) ∧ (¬ a1 < 0 →
    (((nI 16) ≤ a1 →
      Q none σ) ∧ (¬ (nI 16) ≤ a1 →
      vp_in a1 16 ∧
      ((0 ≤ (σ.1 17 a1.toNatClampNeg) →
        Q none σ) ∧ (¬ 0 ≤ (σ.1 17 a1.toNatClampNeg) →
        vp_in a1 16 ∧ ∀ s1 : zS, s1 = zsI σ 17 a1.toNatClampNeg a2 →
        Q none s1))))))
def LIX2_noteWrong  : Nat → Nat → zLo → zS → Prop := fun t n l τ => False
def JIX2_noteWrong  (Q : Option Value → zS → Prop) (QX : zS → Prop) : Nat → Option Nat → zLo → zS → Prop := fun t n l τ => False
set_option maxRecDepth 50000 in
theorem pX2_noteWrong_0  (Q : Option Value → zS → Prop) (QX : zS → Prop)  (a1 : Int32) (a2 : Int32) (σ : zS) (h : PX2_noteWrong_0  Q QX a1 a2 σ) : zwp JX2_noteWrong (zB hX2_noteWrong (zKt jnX2_noteWrong (JIX2_noteWrong  Q QX) (LIX2_noteWrong ) none 0)) Q QX kX2_noteWrong 0 (lv_args 0 [.ref 2, .int a1, .int a2]) [] σ := h
set_option maxRecDepth 50000 in
theorem rX2_noteWrong {Q : Option Value → zS → Prop} {QX : zS → Prop} {a1 : Int32} {a2 : Int32} {σ : zS}   (h0 : PX2_noteWrong_0  Q QX a1 a2 σ) : zCT zZC zmX2_noteWrong [.ref 2, .int a1, .int a2] σ Q QX := by
  refine zCT_of zZC_ok pnX2 (Nat.le_of_ble_eq_true rfl) kX2_noteWrong ksX2_noteWrong JX2_noteWrong 1 (fun t ht => ?_) hX2_noteWrong jnX2_noteWrong (JIX2_noteWrong  Q QX) (LIX2_noteWrong ) (fun n t ln σ' ht hj hI => ?_) (fun m t ln σ' ht hj hI => ?_) (pX2_noteWrong_0  Q QX a1 a2 σ h0)
  · cases ht
  · cases ht
  · cases ht
def JX2_parameter : Nat → Bool := fun t => false && Nat.beq t 0
def jnX2_parameter : Nat → Bool := fun t => false && Nat.beq t 0
def hX2_parameter : Nat → List Nat := fun t => []
def PX2_parameter_0  (Q : Option Value → zS → Prop) (QX : zS → Prop) (a1 : Int32) (a2 : Int32) (σ : zS) : Prop :=
  ((((a1 * (16 : Int32)) + a2) < 0 →
    Q (some (.int (0 : Int32))) σ) ∧ (¬ ((a1 * (16 : Int32)) + a2) < 0 →
    (((nI 1024) ≤ ((a1 * (16 : Int32)) + a2) →
      Q (some (.int (0 : Int32))) σ) ∧ (¬ (nI 1024) ≤ ((a1 * (16 : Int32)) + a2) →
      vp_in ((a1 * (16 : Int32)) + a2) 1024 ∧
      Q (some (.int (σ.1 12 ((a1 * (16 : Int32)) + a2).toNatClampNeg))) σ))))
def LIX2_parameter  : Nat → Nat → zLo → zS → Prop := fun t n l τ => False
def JIX2_parameter  (Q : Option Value → zS → Prop) (QX : zS → Prop) : Nat → Option Nat → zLo → zS → Prop := fun t n l τ => False
set_option maxRecDepth 50000 in
theorem pX2_parameter_0  (Q : Option Value → zS → Prop) (QX : zS → Prop)  (a1 : Int32) (a2 : Int32) (σ : zS) (h : PX2_parameter_0  Q QX a1 a2 σ) : zwp JX2_parameter (zB hX2_parameter (zKt jnX2_parameter (JIX2_parameter  Q QX) (LIX2_parameter ) none 0)) Q QX kX2_parameter 0 (lv_args 0 [.ref 2, .int a1, .int a2]) [] σ := h
set_option maxRecDepth 50000 in
theorem rX2_parameter {Q : Option Value → zS → Prop} {QX : zS → Prop} {a1 : Int32} {a2 : Int32} {σ : zS}   (h0 : PX2_parameter_0  Q QX a1 a2 σ) : zCT zZC zmX2_parameter [.ref 2, .int a1, .int a2] σ Q QX := by
  refine zCT_of zZC_ok pnX2 (Nat.le_of_ble_eq_true rfl) kX2_parameter ksX2_parameter JX2_parameter 1 (fun t ht => ?_) hX2_parameter jnX2_parameter (JIX2_parameter  Q QX) (LIX2_parameter ) (fun n t ln σ' ht hj hI => ?_) (fun m t ln σ' ht hj hI => ?_) (pX2_parameter_0  Q QX a1 a2 σ h0)
  · cases ht
  · cases ht
  · cases ht
def JX2_parameterCount : Nat → Bool := fun t => false && Nat.beq t 0
def jnX2_parameterCount : Nat → Bool := fun t => false && Nat.beq t 0
def hX2_parameterCount : Nat → List Nat := fun t => []
def PX2_parameterCount_0  (Q : Option Value → zS → Prop) (QX : zS → Prop) (a1 : Int32) (σ : zS) : Prop :=
  ((a1 < 0 →
    Q (some (.int (0 : Int32))) σ) ∧ (¬ a1 < 0 →
    (((nI 64) ≤ a1 →
      Q (some (.int (0 : Int32))) σ) ∧ (¬ (nI 64) ≤ a1 →
      vp_in a1 64 ∧
      Q (some (.int (σ.1 11 a1.toNatClampNeg))) σ))))
def LIX2_parameterCount  : Nat → Nat → zLo → zS → Prop := fun t n l τ => False
def JIX2_parameterCount  (Q : Option Value → zS → Prop) (QX : zS → Prop) : Nat → Option Nat → zLo → zS → Prop := fun t n l τ => False
set_option maxRecDepth 50000 in
theorem pX2_parameterCount_0  (Q : Option Value → zS → Prop) (QX : zS → Prop)  (a1 : Int32) (σ : zS) (h : PX2_parameterCount_0  Q QX a1 σ) : zwp JX2_parameterCount (zB hX2_parameterCount (zKt jnX2_parameterCount (JIX2_parameterCount  Q QX) (LIX2_parameterCount ) none 0)) Q QX kX2_parameterCount 0 (lv_args 0 [.ref 2, .int a1]) [] σ := h
set_option maxRecDepth 50000 in
theorem rX2_parameterCount {Q : Option Value → zS → Prop} {QX : zS → Prop} {a1 : Int32} {σ : zS}   (h0 : PX2_parameterCount_0  Q QX a1 σ) : zCT zZC zmX2_parameterCount [.ref 2, .int a1] σ Q QX := by
  refine zCT_of zZC_ok pnX2 (Nat.le_of_ble_eq_true rfl) kX2_parameterCount ksX2_parameterCount JX2_parameterCount 1 (fun t ht => ?_) hX2_parameterCount jnX2_parameterCount (JIX2_parameterCount  Q QX) (LIX2_parameterCount ) (fun n t ln σ' ht hj hI => ?_) (fun m t ln σ' ht hj hI => ?_) (pX2_parameterCount_0  Q QX a1 σ h0)
  · cases ht
  · cases ht
  · cases ht
def JX2_resultOf : Nat → Bool := fun t => false && Nat.beq t 0
def jnX2_resultOf : Nat → Bool := fun t => false && Nat.beq t 0
def hX2_resultOf : Nat → List Nat := fun t => []
def PX2_resultOf_0  (Q : Option Value → zS → Prop) (QX : zS → Prop) (a1 : Int32) (σ : zS) : Prop :=
  ((a1 < 0 →
    Q (some (.int (64 : Int32))) σ) ∧ (¬ a1 < 0 →
    (((nI 64) ≤ a1 →
      Q (some (.int (64 : Int32))) σ) ∧ (¬ (nI 64) ≤ a1 →
      vp_in a1 64 ∧
      Q (some (.int (σ.1 13 a1.toNatClampNeg))) σ))))
def LIX2_resultOf  : Nat → Nat → zLo → zS → Prop := fun t n l τ => False
def JIX2_resultOf  (Q : Option Value → zS → Prop) (QX : zS → Prop) : Nat → Option Nat → zLo → zS → Prop := fun t n l τ => False
set_option maxRecDepth 50000 in
theorem pX2_resultOf_0  (Q : Option Value → zS → Prop) (QX : zS → Prop)  (a1 : Int32) (σ : zS) (h : PX2_resultOf_0  Q QX a1 σ) : zwp JX2_resultOf (zB hX2_resultOf (zKt jnX2_resultOf (JIX2_resultOf  Q QX) (LIX2_resultOf ) none 0)) Q QX kX2_resultOf 0 (lv_args 0 [.ref 2, .int a1]) [] σ := h
set_option maxRecDepth 50000 in
theorem rX2_resultOf {Q : Option Value → zS → Prop} {QX : zS → Prop} {a1 : Int32} {σ : zS}   (h0 : PX2_resultOf_0  Q QX a1 σ) : zCT zZC zmX2_resultOf [.ref 2, .int a1] σ Q QX := by
  refine zCT_of zZC_ok pnX2 (Nat.le_of_ble_eq_true rfl) kX2_resultOf ksX2_resultOf JX2_resultOf 1 (fun t ht => ?_) hX2_resultOf jnX2_resultOf (JIX2_resultOf  Q QX) (LIX2_resultOf ) (fun n t ln σ' ht hj hI => ?_) (fun m t ln σ' ht hj hI => ?_) (pX2_resultOf_0  Q QX a1 σ h0)
  · cases ht
  · cases ht
  · cases ht
def JX2_signatureOf : Nat → Bool := fun t => false && Nat.beq t 0
def jnX2_signatureOf : Nat → Bool := fun t => false && Nat.beq t 0
def hX2_signatureOf : Nat → List Nat := fun t => []
def PX2_signatureOf_0  (Q : Option Value → zS → Prop) (QX : zS → Prop) (a1 : Int64) (σ : zS) : Prop :=
  ((a1 < (0 : Int64) →
    Q (some (.int (-1 : Int32))) σ) ∧ (¬ a1 < (0 : Int64) →
    ((((σ.1 2 8).toInt64) ≤ a1 →
      Q (some (.int (-1 : Int32))) σ) ∧ (¬ ((σ.1 2 8).toInt64) ≤ a1 →
      ((a1 < ((nI 96).toInt64) →
        vp_in (a1.toInt32) 96 ∧
        Q (some (.int (σ.1 14 (a1.toInt32).toNatClampNeg))) σ) ∧ (¬ a1 < ((nI 96).toInt64) →
        Q (some (.int (-1 : Int32))) σ))))))
def LIX2_signatureOf  : Nat → Nat → zLo → zS → Prop := fun t n l τ => False
def JIX2_signatureOf  (Q : Option Value → zS → Prop) (QX : zS → Prop) : Nat → Option Nat → zLo → zS → Prop := fun t n l τ => False
set_option maxRecDepth 50000 in
theorem pX2_signatureOf_0  (Q : Option Value → zS → Prop) (QX : zS → Prop)  (a1 : Int64) (σ : zS) (h : PX2_signatureOf_0  Q QX a1 σ) : zwp JX2_signatureOf (zB hX2_signatureOf (zKt jnX2_signatureOf (JIX2_signatureOf  Q QX) (LIX2_signatureOf ) none 0)) Q QX kX2_signatureOf 0 (lv_args 0 [.ref 2, .long a1]) [] σ := h
set_option maxRecDepth 50000 in
theorem rX2_signatureOf {Q : Option Value → zS → Prop} {QX : zS → Prop} {a1 : Int64} {σ : zS}   (h0 : PX2_signatureOf_0  Q QX a1 σ) : zCT zZC zmX2_signatureOf [.ref 2, .long a1] σ Q QX := by
  refine zCT_of zZC_ok pnX2 (Nat.le_of_ble_eq_true rfl) kX2_signatureOf ksX2_signatureOf JX2_signatureOf 1 (fun t ht => ?_) hX2_signatureOf jnX2_signatureOf (JIX2_signatureOf  Q QX) (LIX2_signatureOf ) (fun n t ln σ' ht hj hI => ?_) (fun m t ln σ' ht hj hI => ?_) (pX2_signatureOf_0  Q QX a1 σ h0)
  · cases ht
  · cases ht
  · cases ht
def JX2_typeOfGlobal : Nat → Bool := fun t => false && Nat.beq t 0
def jnX2_typeOfGlobal : Nat → Bool := fun t => false && Nat.beq t 0
def hX2_typeOfGlobal : Nat → List Nat := fun t => []
def PX2_typeOfGlobal_0  (Q : Option Value → zS → Prop) (QX : zS → Prop) (a1 : Int32) (σ : zS) : Prop :=
  ((a1 < 0 →
    Q (some (.int (0 : Int32))) σ) ∧ (¬ a1 < 0 →
    (((nI 64) ≤ a1 →
      Q (some (.int (0 : Int32))) σ) ∧ (¬ (nI 64) ≤ a1 →
      vp_in a1 64 ∧
      Q (some (.int (σ.1 15 a1.toNatClampNeg))) σ))))
def LIX2_typeOfGlobal  : Nat → Nat → zLo → zS → Prop := fun t n l τ => False
def JIX2_typeOfGlobal  (Q : Option Value → zS → Prop) (QX : zS → Prop) : Nat → Option Nat → zLo → zS → Prop := fun t n l τ => False
set_option maxRecDepth 50000 in
theorem pX2_typeOfGlobal_0  (Q : Option Value → zS → Prop) (QX : zS → Prop)  (a1 : Int32) (σ : zS) (h : PX2_typeOfGlobal_0  Q QX a1 σ) : zwp JX2_typeOfGlobal (zB hX2_typeOfGlobal (zKt jnX2_typeOfGlobal (JIX2_typeOfGlobal  Q QX) (LIX2_typeOfGlobal ) none 0)) Q QX kX2_typeOfGlobal 0 (lv_args 0 [.ref 2, .int a1]) [] σ := h
set_option maxRecDepth 50000 in
theorem rX2_typeOfGlobal {Q : Option Value → zS → Prop} {QX : zS → Prop} {a1 : Int32} {σ : zS}   (h0 : PX2_typeOfGlobal_0  Q QX a1 σ) : zCT zZC zmX2_typeOfGlobal [.ref 2, .int a1] σ Q QX := by
  refine zCT_of zZC_ok pnX2 (Nat.le_of_ble_eq_true rfl) kX2_typeOfGlobal ksX2_typeOfGlobal JX2_typeOfGlobal 1 (fun t ht => ?_) hX2_typeOfGlobal jnX2_typeOfGlobal (JIX2_typeOfGlobal  Q QX) (LIX2_typeOfGlobal ) (fun n t ln σ' ht hj hI => ?_) (fun m t ln σ' ht hj hI => ?_) (pX2_typeOfGlobal_0  Q QX a1 σ h0)
  · cases ht
  · cases ht
  · cases ht
def JX3_bodyResult : Nat → Bool := fun t => false && Nat.beq t 0
def jnX3_bodyResult : Nat → Bool := fun t => false && Nat.beq t 0
def hX3_bodyResult : Nat → List Nat := fun t => []
def PX3_bodyResult_0  (Q : Option Value → zS → Prop) (QX : zS → Prop)  (σ : zS) : Prop :=
  vp_in (0 : Int32) 61 ∧
  Q (some (.int (σ.1 22 (0 : Int32).toNatClampNeg))) σ
def LIX3_bodyResult  : Nat → Nat → zLo → zS → Prop := fun t n l τ => False
def JIX3_bodyResult  (Q : Option Value → zS → Prop) (QX : zS → Prop) : Nat → Option Nat → zLo → zS → Prop := fun t n l τ => False
set_option maxRecDepth 50000 in
theorem pX3_bodyResult_0  (Q : Option Value → zS → Prop) (QX : zS → Prop)   (σ : zS) (h : PX3_bodyResult_0  Q QX  σ) : zwp JX3_bodyResult (zB hX3_bodyResult (zKt jnX3_bodyResult (JIX3_bodyResult  Q QX) (LIX3_bodyResult ) none 0)) Q QX kX3_bodyResult 0 (lv_args 0 [.ref 5]) [] σ := h
set_option maxRecDepth 50000 in
theorem rX3_bodyResult {Q : Option Value → zS → Prop} {QX : zS → Prop}  {σ : zS}   (h0 : PX3_bodyResult_0  Q QX  σ) : zCT zZC zmX3_bodyResult [.ref 5] σ Q QX := by
  refine zCT_of zZC_ok pnX3 (Nat.le_of_ble_eq_true rfl) kX3_bodyResult ksX3_bodyResult JX3_bodyResult 1 (fun t ht => ?_) hX3_bodyResult jnX3_bodyResult (JIX3_bodyResult  Q QX) (LIX3_bodyResult ) (fun n t ln σ' ht hj hI => ?_) (fun m t ln σ' ht hj hI => ?_) (pX3_bodyResult_0  Q QX  σ h0)
  · cases ht
  · cases ht
  · cases ht
def JX3_demand : Nat → Bool := fun t => false && Nat.beq t 0
def jnX3_demand : Nat → Bool := fun t => false && Nat.beq t 0
def hX3_demand : Nat → List Nat := fun t => []
def PX3_demand_0  (Q : Option Value → zS → Prop) (QX : zS → Prop) (a1 : Int32) (σ : zS) : Prop :=
  ((a1 = 0 →
    ((0 : Int32) = 0 ∨ (0 : Int32) = 1) ∧ ∀ s1 : zS, s1 = zsI σ 5 7 (0 : Int32) →
    Q none s1) ∧ (¬ a1 = 0 →
    Q none σ))
def LIX3_demand  : Nat → Nat → zLo → zS → Prop := fun t n l τ => False
def JIX3_demand  (Q : Option Value → zS → Prop) (QX : zS → Prop) : Nat → Option Nat → zLo → zS → Prop := fun t n l τ => False
set_option maxRecDepth 50000 in
theorem pX3_demand_0  (Q : Option Value → zS → Prop) (QX : zS → Prop)  (a1 : Int32) (σ : zS) (h : PX3_demand_0  Q QX a1 σ) : zwp JX3_demand (zB hX3_demand (zKt jnX3_demand (JIX3_demand  Q QX) (LIX3_demand ) none 0)) Q QX kX3_demand 0 (lv_args 0 [.ref 5, .int a1]) [] σ := h
set_option maxRecDepth 50000 in
theorem rX3_demand {Q : Option Value → zS → Prop} {QX : zS → Prop} {a1 : Int32} {σ : zS}   (h0 : PX3_demand_0  Q QX a1 σ) : zCT zZC zmX3_demand [.ref 5, .int a1] σ Q QX := by
  refine zCT_of zZC_ok pnX3 (Nat.le_of_ble_eq_true rfl) kX3_demand ksX3_demand JX3_demand 1 (fun t ht => ?_) hX3_demand jnX3_demand (JIX3_demand  Q QX) (LIX3_demand ) (fun n t ln σ' ht hj hI => ?_) (fun m t ln σ' ht hj hI => ?_) (pX3_demand_0  Q QX a1 σ h0)
  · cases ht
  · cases ht
  · cases ht
def JX3_forget : Nat → Bool := fun t => false && Nat.beq t 0
def jnX3_forget : Nat → Bool := fun t => false && Nat.beq t 0
def hX3_forget : Nat → List Nat := fun t => []
def PX3_forget_0  (Q : Option Value → zS → Prop) (QX : zS → Prop)  (σ : zS) : Prop :=
  (((σ.1 5 5) < 0 →
    Q none σ) ∧ (¬ (σ.1 5 5) < 0 →
    (((nI 61) ≤ (σ.1 5 5) →
      Q none σ) ∧ (¬ (nI 61) ≤ (σ.1 5 5) →
      vp_in (σ.1 5 5) 61 ∧
      ∀ s1 : zS, s1 = zsI σ 5 6 (σ.1 23 (σ.1 5 5).toNatClampNeg) →
      vp_in (s1.1 5 5) 61 ∧ ∀ s2 : zS, s2 = zsI s1 24 (s1.1 5 5).toNatClampNeg (vp_nar .boolean (1 : Int32)) →
      Q none s2))))
def LIX3_forget  : Nat → Nat → zLo → zS → Prop := fun t n l τ => False
def JIX3_forget  (Q : Option Value → zS → Prop) (QX : zS → Prop) : Nat → Option Nat → zLo → zS → Prop := fun t n l τ => False
set_option maxRecDepth 50000 in
theorem pX3_forget_0  (Q : Option Value → zS → Prop) (QX : zS → Prop)   (σ : zS) (h : PX3_forget_0  Q QX  σ) : zwp JX3_forget (zB hX3_forget (zKt jnX3_forget (JIX3_forget  Q QX) (LIX3_forget ) none 0)) Q QX kX3_forget 0 (lv_args 0 [.ref 5]) [] σ := h
set_option maxRecDepth 50000 in
theorem rX3_forget {Q : Option Value → zS → Prop} {QX : zS → Prop}  {σ : zS}   (h0 : PX3_forget_0  Q QX  σ) : zCT zZC zmX3_forget [.ref 5] σ Q QX := by
  refine zCT_of zZC_ok pnX3 (Nat.le_of_ble_eq_true rfl) kX3_forget ksX3_forget JX3_forget 1 (fun t ht => ?_) hX3_forget jnX3_forget (JIX3_forget  Q QX) (LIX3_forget ) (fun n t ln σ' ht hj hI => ?_) (fun m t ln σ' ht hj hI => ?_) (pX3_forget_0  Q QX  σ h0)
  · cases ht
  · cases ht
  · cases ht
def JX3_isEmpty : Nat → Bool := fun t => false && Nat.beq t 0
def jnX3_isEmpty : Nat → Bool := fun t => false && Nat.beq t 0
def hX3_isEmpty : Nat → List Nat := fun t => []
def PX3_isEmpty_0  (Q : Option Value → zS → Prop) (QX : zS → Prop)  (σ : zS) : Prop :=
  (((σ.1 5 5) < 0 →
    ((0 : Int32) = 0 ∨ (0 : Int32) = 1) ∧ Q (some (.int (0 : Int32))) σ) ∧ (¬ (σ.1 5 5) < 0 →
    (((nI 61) ≤ (σ.1 5 5) →
      ((0 : Int32) = 0 ∨ (0 : Int32) = 1) ∧ Q (some (.int (0 : Int32))) σ) ∧ (¬ (nI 61) ≤ (σ.1 5 5) →
      vp_in (σ.1 5 5) 61 ∧
      (((σ.1 5 6) = (σ.1 23 (σ.1 5 5).toNatClampNeg) →
        ((1 : Int32) = 0 ∨ (1 : Int32) = 1) ∧ Q (some (.int (1 : Int32))) σ) ∧ (¬ (σ.1 5 6) = (σ.1 23 (σ.1 5 5).toNatClampNeg) →
        ((0 : Int32) = 0 ∨ (0 : Int32) = 1) ∧ Q (some (.int (0 : Int32))) σ))))))
def LIX3_isEmpty  : Nat → Nat → zLo → zS → Prop := fun t n l τ => False
def JIX3_isEmpty  (Q : Option Value → zS → Prop) (QX : zS → Prop) : Nat → Option Nat → zLo → zS → Prop := fun t n l τ => False
set_option maxRecDepth 50000 in
theorem pX3_isEmpty_0  (Q : Option Value → zS → Prop) (QX : zS → Prop)   (σ : zS) (h : PX3_isEmpty_0  Q QX  σ) : zwp JX3_isEmpty (zB hX3_isEmpty (zKt jnX3_isEmpty (JIX3_isEmpty  Q QX) (LIX3_isEmpty ) none 0)) Q QX kX3_isEmpty 0 (lv_args 0 [.ref 5]) [] σ := h
set_option maxRecDepth 50000 in
theorem rX3_isEmpty {Q : Option Value → zS → Prop} {QX : zS → Prop}  {σ : zS}   (h0 : PX3_isEmpty_0  Q QX  σ) : zCT zZC zmX3_isEmpty [.ref 5] σ Q QX := by
  refine zCT_of zZC_ok pnX3 (Nat.le_of_ble_eq_true rfl) kX3_isEmpty ksX3_isEmpty JX3_isEmpty 1 (fun t ht => ?_) hX3_isEmpty jnX3_isEmpty (JIX3_isEmpty  Q QX) (LIX3_isEmpty ) (fun n t ln σ' ht hj hI => ?_) (fun m t ln σ' ht hj hI => ?_) (pX3_isEmpty_0  Q QX  σ h0)
  · cases ht
  · cases ht
  · cases ht
def JX3_labelType : Nat → Bool := fun t => false && Nat.beq t 0
def jnX3_labelType : Nat → Bool := fun t => false && Nat.beq t 0
def hX3_labelType : Nat → List Nat := fun t => []
def PX3_labelType_0  (Q : Option Value → zS → Prop) (QX : zS → Prop) (a1 : Int64) (σ : zS) : Prop :=
  ((a1 < (0 : Int64) →
    (((-1 : Int32) < 0 →
      ((0 : Int32) = 0 ∨ (0 : Int32) = 1) ∧ ∀ s1 : zS, s1 = zsI σ 5 7 (0 : Int32) →
      Q (some (.int (64 : Int32))) s1) ∧ (¬ (-1 : Int32) < 0 →
      (((-1 : Int32) < (nI 61) →
        vp_in (-1 : Int32) 61 ∧
        (((σ.1 21 (-1 : Int32).toNatClampNeg) = (3 : Int32) →
          Q (some (.int (64 : Int32))) σ) ∧ (¬ (σ.1 21 (-1 : Int32).toNatClampNeg) = (3 : Int32) →
          vp_in (-1 : Int32) 61 ∧
          Q (some (.int (σ.1 22 (-1 : Int32).toNatClampNeg))) σ))) ∧ (¬ (-1 : Int32) < (nI 61) →
        ((0 : Int32) = 0 ∨ (0 : Int32) = 1) ∧ ∀ s2 : zS, s2 = zsI σ 5 7 (0 : Int32) →
        Q (some (.int (64 : Int32))) s2))))) ∧ (¬ a1 < (0 : Int64) →
    ((((σ.1 5 5).toInt64) < a1 →
      (((-1 : Int32) < 0 →
        ((0 : Int32) = 0 ∨ (0 : Int32) = 1) ∧ ∀ s3 : zS, s3 = zsI σ 5 7 (0 : Int32) →
        Q (some (.int (64 : Int32))) s3) ∧ (¬ (-1 : Int32) < 0 →
        (((-1 : Int32) < (nI 61) →
          vp_in (-1 : Int32) 61 ∧
          (((σ.1 21 (-1 : Int32).toNatClampNeg) = (3 : Int32) →
            Q (some (.int (64 : Int32))) σ) ∧ (¬ (σ.1 21 (-1 : Int32).toNatClampNeg) = (3 : Int32) →
            vp_in (-1 : Int32) 61 ∧
            Q (some (.int (σ.1 22 (-1 : Int32).toNatClampNeg))) σ))) ∧ (¬ (-1 : Int32) < (nI 61) →
          ((0 : Int32) = 0 ∨ (0 : Int32) = 1) ∧ ∀ s4 : zS, s4 = zsI σ 5 7 (0 : Int32) →
          Q (some (.int (64 : Int32))) s4))))) ∧ (¬ ((σ.1 5 5).toInt64) < a1 →
      ((((σ.1 5 5) - (a1.toInt32)) < 0 →
        ((0 : Int32) = 0 ∨ (0 : Int32) = 1) ∧ ∀ s5 : zS, s5 = zsI σ 5 7 (0 : Int32) →
        Q (some (.int (64 : Int32))) s5) ∧ (¬ ((σ.1 5 5) - (a1.toInt32)) < 0 →
        ((((σ.1 5 5) - (a1.toInt32)) < (nI 61) →
          vp_in ((σ.1 5 5) - (a1.toInt32)) 61 ∧
          (((σ.1 21 ((σ.1 5 5) - (a1.toInt32)).toNatClampNeg) = (3 : Int32) →
            Q (some (.int (64 : Int32))) σ) ∧ (¬ (σ.1 21 ((σ.1 5 5) - (a1.toInt32)).toNatClampNeg) = (3 : Int32) →
            vp_in ((σ.1 5 5) - (a1.toInt32)) 61 ∧
            Q (some (.int (σ.1 22 ((σ.1 5 5) - (a1.toInt32)).toNatClampNeg))) σ))) ∧ (¬ ((σ.1 5 5) - (a1.toInt32)) < (nI 61) →
          ((0 : Int32) = 0 ∨ (0 : Int32) = 1) ∧ ∀ s6 : zS, s6 = zsI σ 5 7 (0 : Int32) →
          Q (some (.int (64 : Int32))) s6))))))))
def LIX3_labelType  : Nat → Nat → zLo → zS → Prop := fun t n l τ => False
def JIX3_labelType  (Q : Option Value → zS → Prop) (QX : zS → Prop) : Nat → Option Nat → zLo → zS → Prop := fun t n l τ => False
set_option maxRecDepth 50000 in
theorem pX3_labelType_0  (Q : Option Value → zS → Prop) (QX : zS → Prop)  (a1 : Int64) (σ : zS) (h : PX3_labelType_0  Q QX a1 σ) : zwp JX3_labelType (zB hX3_labelType (zKt jnX3_labelType (JIX3_labelType  Q QX) (LIX3_labelType ) none 0)) Q QX kX3_labelType 0 (lv_args 0 [.ref 5, .long a1]) [] σ := h
set_option maxRecDepth 50000 in
theorem rX3_labelType {Q : Option Value → zS → Prop} {QX : zS → Prop} {a1 : Int64} {σ : zS}   (h0 : PX3_labelType_0  Q QX a1 σ) : zCT zZC zmX3_labelType [.ref 5, .long a1] σ Q QX := by
  refine zCT_of zZC_ok pnX3 (Nat.le_of_ble_eq_true rfl) kX3_labelType ksX3_labelType JX3_labelType 1 (fun t ht => ?_) hX3_labelType jnX3_labelType (JIX3_labelType  Q QX) (LIX3_labelType ) (fun n t ln σ' ht hj hI => ?_) (fun m t ln σ' ht hj hI => ?_) (pX3_labelType_0  Q QX a1 σ h0)
  · cases ht
  · cases ht
  · cases ht
def JX3_leave : Nat → Bool := fun t => false && Nat.beq t 0
def jnX3_leave : Nat → Bool := fun t => false && Nat.beq t 0
def hX3_leave : Nat → List Nat := fun t => []
def PX3_leave_0  (Q : Option Value → zS → Prop) (QX : zS → Prop) (a1 : Int32) (σ : zS) : Prop :=
  ((a1 = (64 : Int32) →
    Q none σ) ∧ (¬ a1 = (64 : Int32) →
    (((σ.1 5 6) < 0 →
      Q none σ) ∧ (¬ (σ.1 5 6) < 0 →
      (((nI 16000) ≤ (σ.1 5 6) →
        Q none σ) ∧ (¬ (nI 16000) ≤ (σ.1 5 6) →
        vp_in (σ.1 5 6) 16000 ∧ ∀ s1 : zS, s1 = zsI σ 25 (σ.1 5 6).toNatClampNeg (vp_nar .byte (a1.toInt8.toInt32)) →
        ∀ s2 : zS, s2 = zsI s1 5 6 ((s1.1 5 6) + (1 : Int32)) →
        Q none s2))))))
def LIX3_leave  : Nat → Nat → zLo → zS → Prop := fun t n l τ => False
def JIX3_leave  (Q : Option Value → zS → Prop) (QX : zS → Prop) : Nat → Option Nat → zLo → zS → Prop := fun t n l τ => False
set_option maxRecDepth 50000 in
theorem pX3_leave_0  (Q : Option Value → zS → Prop) (QX : zS → Prop)  (a1 : Int32) (σ : zS) (h : PX3_leave_0  Q QX a1 σ) : zwp JX3_leave (zB hX3_leave (zKt jnX3_leave (JIX3_leave  Q QX) (LIX3_leave ) none 0)) Q QX kX3_leave 0 (lv_args 0 [.ref 5, .int a1]) [] σ := h
set_option maxRecDepth 50000 in
theorem rX3_leave {Q : Option Value → zS → Prop} {QX : zS → Prop} {a1 : Int32} {σ : zS}   (h0 : PX3_leave_0  Q QX a1 σ) : zCT zZC zmX3_leave [.ref 5, .int a1] σ Q QX := by
  refine zCT_of zZC_ok pnX3 (Nat.le_of_ble_eq_true rfl) kX3_leave ksX3_leave JX3_leave 1 (fun t ht => ?_) hX3_leave jnX3_leave (JIX3_leave  Q QX) (LIX3_leave ) (fun n t ln σ' ht hj hI => ?_) (fun m t ln σ' ht hj hI => ?_) (pX3_leave_0  Q QX a1 σ h0)
  · cases ht
  · cases ht
  · cases ht
def JX3_open : Nat → Bool := fun t => false && Nat.beq t 0
def jnX3_open : Nat → Bool := fun t => false && Nat.beq t 0
def hX3_open : Nat → List Nat := fun t => []
def PX3_open_0  (Q : Option Value → zS → Prop) (QX : zS → Prop) (a1 : Int32) (a2 : Int32) (σ : zS) : Prop :=
  (((σ.1 5 5) < (-1 : Int32) →
    Q none σ) ∧ (¬ (σ.1 5 5) < (-1 : Int32) →
    (((nI 61) ≤ ((σ.1 5 5) + (1 : Int32)) →
      Q none σ) ∧ (¬ (nI 61) ≤ ((σ.1 5 5) + (1 : Int32)) →
      ∀ s1 : zS, s1 = zsI σ 5 5 ((σ.1 5 5) + (1 : Int32)) →
      vp_in (s1.1 5 5) 61 ∧ ∀ s2 : zS, s2 = zsI s1 21 (s1.1 5 5).toNatClampNeg a1 →
      vp_in (s2.1 5 5) 61 ∧ ∀ s3 : zS, s3 = zsI s2 22 (s2.1 5 5).toNatClampNeg a2 →
      vp_in (s3.1 5 5) 61 ∧ ∀ s4 : zS, s4 = zsI s3 23 (s3.1 5 5).toNatClampNeg (s3.1 5 6) →
      vp_in (s4.1 5 5) 61 ∧ ∀ s5 : zS, s5 = zsI s4 24 (s4.1 5 5).toNatClampNeg (vp_nar .boolean (0 : Int32)) →
      Q none s5))))
def LIX3_open  : Nat → Nat → zLo → zS → Prop := fun t n l τ => False
def JIX3_open  (Q : Option Value → zS → Prop) (QX : zS → Prop) : Nat → Option Nat → zLo → zS → Prop := fun t n l τ => False
set_option maxRecDepth 50000 in
theorem pX3_open_0  (Q : Option Value → zS → Prop) (QX : zS → Prop)  (a1 : Int32) (a2 : Int32) (σ : zS) (h : PX3_open_0  Q QX a1 a2 σ) : zwp JX3_open (zB hX3_open (zKt jnX3_open (JIX3_open  Q QX) (LIX3_open ) none 0)) Q QX kX3_open 0 (lv_args 0 [.ref 5, .int a1, .int a2]) [] σ := h
set_option maxRecDepth 50000 in
theorem rX3_open {Q : Option Value → zS → Prop} {QX : zS → Prop} {a1 : Int32} {a2 : Int32} {σ : zS}   (h0 : PX3_open_0  Q QX a1 a2 σ) : zCT zZC zmX3_open [.ref 5, .int a1, .int a2] σ Q QX := by
  refine zCT_of zZC_ok pnX3 (Nat.le_of_ble_eq_true rfl) kX3_open ksX3_open JX3_open 1 (fun t ht => ?_) hX3_open jnX3_open (JIX3_open  Q QX) (LIX3_open ) (fun n t ln σ' ht hj hI => ?_) (fun m t ln σ' ht hj hI => ?_) (pX3_open_0  Q QX a1 a2 σ h0)
  · cases ht
  · cases ht
  · cases ht
def JX3_openedBy : Nat → Bool := fun t => false && Nat.beq t 0
def jnX3_openedBy : Nat → Bool := fun t => false && Nat.beq t 0
def hX3_openedBy : Nat → List Nat := fun t => []
def PX3_openedBy_0  (Q : Option Value → zS → Prop) (QX : zS → Prop)  (σ : zS) : Prop :=
  (((σ.1 5 5) < 0 →
    Q (some (.int (0 : Int32))) σ) ∧ (¬ (σ.1 5 5) < 0 →
    (((nI 61) ≤ (σ.1 5 5) →
      Q (some (.int (0 : Int32))) σ) ∧ (¬ (nI 61) ≤ (σ.1 5 5) →
      vp_in (σ.1 5 5) 61 ∧
      Q (some (.int (σ.1 21 (σ.1 5 5).toNatClampNeg))) σ))))
def LIX3_openedBy  : Nat → Nat → zLo → zS → Prop := fun t n l τ => False
def JIX3_openedBy  (Q : Option Value → zS → Prop) (QX : zS → Prop) : Nat → Option Nat → zLo → zS → Prop := fun t n l τ => False
set_option maxRecDepth 50000 in
theorem pX3_openedBy_0  (Q : Option Value → zS → Prop) (QX : zS → Prop)   (σ : zS) (h : PX3_openedBy_0  Q QX  σ) : zwp JX3_openedBy (zB hX3_openedBy (zKt jnX3_openedBy (JIX3_openedBy  Q QX) (LIX3_openedBy ) none 0)) Q QX kX3_openedBy 0 (lv_args 0 [.ref 5]) [] σ := h
set_option maxRecDepth 50000 in
theorem rX3_openedBy {Q : Option Value → zS → Prop} {QX : zS → Prop}  {σ : zS}   (h0 : PX3_openedBy_0  Q QX  σ) : zCT zZC zmX3_openedBy [.ref 5] σ Q QX := by
  refine zCT_of zZC_ok pnX3 (Nat.le_of_ble_eq_true rfl) kX3_openedBy ksX3_openedBy JX3_openedBy 1 (fun t ht => ?_) hX3_openedBy jnX3_openedBy (JIX3_openedBy  Q QX) (LIX3_openedBy ) (fun n t ln σ' ht hj hI => ?_) (fun m t ln σ' ht hj hI => ?_) (pX3_openedBy_0  Q QX  σ h0)
  · cases ht
  · cases ht
  · cases ht
def JX3_result : Nat → Bool := fun t => false && Nat.beq t 0
def jnX3_result : Nat → Bool := fun t => false && Nat.beq t 0
def hX3_result : Nat → List Nat := fun t => []
def PX3_result_0  (Q : Option Value → zS → Prop) (QX : zS → Prop)  (σ : zS) : Prop :=
  (((σ.1 5 5) < 0 →
    Q (some (.int (64 : Int32))) σ) ∧ (¬ (σ.1 5 5) < 0 →
    (((nI 61) ≤ (σ.1 5 5) →
      Q (some (.int (64 : Int32))) σ) ∧ (¬ (nI 61) ≤ (σ.1 5 5) →
      vp_in (σ.1 5 5) 61 ∧
      Q (some (.int (σ.1 22 (σ.1 5 5).toNatClampNeg))) σ))))
def LIX3_result  : Nat → Nat → zLo → zS → Prop := fun t n l τ => False
def JIX3_result  (Q : Option Value → zS → Prop) (QX : zS → Prop) : Nat → Option Nat → zLo → zS → Prop := fun t n l τ => False
set_option maxRecDepth 50000 in
theorem pX3_result_0  (Q : Option Value → zS → Prop) (QX : zS → Prop)   (σ : zS) (h : PX3_result_0  Q QX  σ) : zwp JX3_result (zB hX3_result (zKt jnX3_result (JIX3_result  Q QX) (LIX3_result ) none 0)) Q QX kX3_result 0 (lv_args 0 [.ref 5]) [] σ := h
set_option maxRecDepth 50000 in
theorem rX3_result {Q : Option Value → zS → Prop} {QX : zS → Prop}  {σ : zS}   (h0 : PX3_result_0  Q QX  σ) : zCT zZC zmX3_result [.ref 5] σ Q QX := by
  refine zCT_of zZC_ok pnX3 (Nat.le_of_ble_eq_true rfl) kX3_result ksX3_result JX3_result 1 (fun t ht => ?_) hX3_result jnX3_result (JIX3_result  Q QX) (LIX3_result ) (fun n t ln σ' ht hj hI => ?_) (fun m t ln σ' ht hj hI => ?_) (pX3_result_0  Q QX  σ h0)
  · cases ht
  · cases ht
  · cases ht
def JX3_take : Nat → Bool := fun t => Nat.beq t 64
def jnX3_take : Nat → Bool := fun t => Nat.beq t 64
def hX3_take : Nat → List Nat := fun t => bif Nat.beq t 64 then [0] else []
def PX3_take_64  (Q : Option Value → zS → Prop) (QX : zS → Prop)  (σ : zS) : Prop :=
  (((σ.1 5 7) = 0 →
    ((0 : Int32) = 0 ∨ (0 : Int32) = 1) ∧ ∀ s1 : zS, s1 = zsI σ 5 7 (0 : Int32) →
    Q (some (.int (0 : Int32))) s1) ∧ (¬ (σ.1 5 7) = 0 →
    vp_in (σ.1 5 5) 61 ∧
    (((σ.1 24 (σ.1 5 5).toNatClampNeg) = 0 →
      ((0 : Int32) = 0 ∨ (0 : Int32) = 1) ∧ ∀ s2 : zS, s2 = zsI σ 5 7 (0 : Int32) →
      Q (some (.int (0 : Int32))) s2) ∧ (¬ (σ.1 24 (σ.1 5 5).toNatClampNeg) = 0 →
      ((1 : Int32) = 0 ∨ (1 : Int32) = 1) ∧ ∀ s3 : zS, s3 = zsI σ 5 7 (1 : Int32) →
      Q (some (.int (0 : Int32))) s3))))
def PX3_take_0  (Q : Option Value → zS → Prop) (QX : zS → Prop) (a1 : Int32) (σ : zS) : Prop :=
  ((a1 = (64 : Int32) →
    Q (some (.int (64 : Int32))) σ) ∧ (¬ a1 = (64 : Int32) →
    (((σ.1 5 5) < 0 →
      Q (some (.int (64 : Int32))) σ) ∧ (¬ (σ.1 5 5) < 0 →
      (((σ.1 5 5) < (nI 61) →
        vp_in (σ.1 5 5) 61 ∧
        (((σ.1 5 6) ≤ (σ.1 23 (σ.1 5 5).toNatClampNeg) →
          PX3_take_64 Q QX σ) ∧ (¬ (σ.1 5 6) ≤ (σ.1 23 (σ.1 5 5).toNatClampNeg) →
          (((σ.1 5 6) < (1 : Int32) →
            PX3_take_64 Q QX σ) ∧ (¬ (σ.1 5 6) < (1 : Int32) →
            (((σ.1 5 6) ≤ (nI 16000) →
              ∀ s1 : zS, s1 = zsI σ 5 6 ((σ.1 5 6) - (1 : Int32)) →
              vp_in (s1.1 5 6) 16000 ∧
              (((s1.1 5 7) = 0 →
                ((0 : Int32) = 0 ∨ (0 : Int32) = 1) ∧ ∀ s2 : zS, s2 = zsI s1 5 7 (0 : Int32) →
                Q (some (.int (s1.1 25 (s1.1 5 6).toNatClampNeg))) s2) ∧ (¬ (s1.1 5 7) = 0 →
                (((s1.1 25 (s1.1 5 6).toNatClampNeg) = a1 →
                  ((1 : Int32) = 0 ∨ (1 : Int32) = 1) ∧ ∀ s3 : zS, s3 = zsI s1 5 7 (1 : Int32) →
                  Q (some (.int (s1.1 25 (s1.1 5 6).toNatClampNeg))) s3) ∧ (¬ (s1.1 25 (s1.1 5 6).toNatClampNeg) = a1 →
                  (((s1.1 25 (s1.1 5 6).toNatClampNeg) = 0 →
                    ((1 : Int32) = 0 ∨ (1 : Int32) = 1) ∧ ∀ s4 : zS, s4 = zsI s1 5 7 (1 : Int32) →
                    Q (some (.int (s1.1 25 (s1.1 5 6).toNatClampNeg))) s4) ∧ (¬ (s1.1 25 (s1.1 5 6).toNatClampNeg) = 0 →
                    ((a1 = 0 →
                      ((1 : Int32) = 0 ∨ (1 : Int32) = 1) ∧ ∀ s5 : zS, s5 = zsI s1 5 7 (1 : Int32) →
                      Q (some (.int (s1.1 25 (s1.1 5 6).toNatClampNeg))) s5) ∧ (¬ a1 = 0 →
                      ((0 : Int32) = 0 ∨ (0 : Int32) = 1) ∧ ∀ s6 : zS, s6 = zsI s1 5 7 (0 : Int32) →
                      Q (some (.int (s1.1 25 (s1.1 5 6).toNatClampNeg))) s6))))))))) ∧ (¬ (σ.1 5 6) ≤ (nI 16000) →
              PX3_take_64 Q QX σ))))))) ∧ (¬ (σ.1 5 5) < (nI 61) →
        Q (some (.int (64 : Int32))) σ))))))
def LIX3_take  : Nat → Nat → zLo → zS → Prop := fun t n l τ => False
def JIX3_take  (Q : Option Value → zS → Prop) (QX : zS → Prop) : Nat → Option Nat → zLo → zS → Prop := fun t n l τ => bif Nat.beq t 64 then zdR 0 5 (zdN (PX3_take_64  Q QX  τ)) l else False
set_option maxRecDepth 50000 in
theorem pX3_take_0  (Q : Option Value → zS → Prop) (QX : zS → Prop)  (a1 : Int32) (σ : zS) (h : PX3_take_0  Q QX a1 σ) : zwp JX3_take (zB hX3_take (zKt jnX3_take (JIX3_take  Q QX) (LIX3_take ) none 0)) Q QX kX3_take 0 (lv_args 0 [.ref 5, .int a1]) [] σ := h
set_option maxRecDepth 50000 in
theorem pX3_take_64  (Q : Option Value → zS → Prop) (QX : zS → Prop) (n : Option Nat)  (σ : zS) (h : PX3_take_64  Q QX  σ) : zwp JX3_take (zB hX3_take (zKt jnX3_take (JIX3_take  Q QX) (LIX3_take ) n 64)) Q QX kX3_take 64 [(0, .ref 5)] [] σ := h
set_option maxRecDepth 50000 in
theorem rX3_take {Q : Option Value → zS → Prop} {QX : zS → Prop} {a1 : Int32} {σ : zS}   (h0 : PX3_take_0  Q QX a1 σ) : zCT zZC zmX3_take [.ref 5, .int a1] σ Q QX := by
  refine zCT_of zZC_ok pnX3 (Nat.le_of_ble_eq_true rfl) kX3_take ksX3_take JX3_take 65 (fun t ht => ?_) hX3_take jnX3_take (JIX3_take  Q QX) (LIX3_take ) (fun n t ln σ' ht hj hI => ?_) (fun m t ln σ' ht hj hI => ?_) (pX3_take_0  Q QX a1 σ h0)
  · have et := Nat.eq_of_beq_eq_true ht; subst et
    exact Nat.le_of_ble_eq_true rfl
  · have et := Nat.eq_of_beq_eq_true ht; subst et
    have hI : JIX3_take  Q QX 64 n ln σ' := hI
    obtain ⟨l0, e0, hI⟩ := zdR_e (i := 0) (q := 5) hI; subst e0
    obtain ⟨e, hI⟩ := zdN_e hI; subst e
    exact pX3_take_64  Q QX n  σ' hI
  · have et := Nat.eq_of_beq_eq_true ht; subst et
    cases hj
def JX3_turnToElse : Nat → Bool := fun t => false && Nat.beq t 0
def jnX3_turnToElse : Nat → Bool := fun t => false && Nat.beq t 0
def hX3_turnToElse : Nat → List Nat := fun t => []
def PX3_turnToElse_0  (Q : Option Value → zS → Prop) (QX : zS → Prop)  (σ : zS) : Prop :=
  (((σ.1 5 5) < 0 →
    Q none σ) ∧ (¬ (σ.1 5 5) < 0 →
    (((nI 61) ≤ (σ.1 5 5) →
      Q none σ) ∧ (¬ (nI 61) ≤ (σ.1 5 5) →
      vp_in (σ.1 5 5) 61 ∧ ∀ s1 : zS, s1 = zsI σ 21 (σ.1 5 5).toNatClampNeg (5 : Int32) →
      vp_in (s1.1 5 5) 61 ∧
      ∀ s2 : zS, s2 = zsI s1 5 6 (s1.1 23 (s1.1 5 5).toNatClampNeg) →
      vp_in (s2.1 5 5) 61 ∧ ∀ s3 : zS, s3 = zsI s2 24 (s2.1 5 5).toNatClampNeg (vp_nar .boolean (0 : Int32)) →
      Q none s3))))
def LIX3_turnToElse  : Nat → Nat → zLo → zS → Prop := fun t n l τ => False
def JIX3_turnToElse  (Q : Option Value → zS → Prop) (QX : zS → Prop) : Nat → Option Nat → zLo → zS → Prop := fun t n l τ => False
set_option maxRecDepth 50000 in
theorem pX3_turnToElse_0  (Q : Option Value → zS → Prop) (QX : zS → Prop)   (σ : zS) (h : PX3_turnToElse_0  Q QX  σ) : zwp JX3_turnToElse (zB hX3_turnToElse (zKt jnX3_turnToElse (JIX3_turnToElse  Q QX) (LIX3_turnToElse ) none 0)) Q QX kX3_turnToElse 0 (lv_args 0 [.ref 5]) [] σ := h
set_option maxRecDepth 50000 in
theorem rX3_turnToElse {Q : Option Value → zS → Prop} {QX : zS → Prop}  {σ : zS}   (h0 : PX3_turnToElse_0  Q QX  σ) : zCT zZC zmX3_turnToElse [.ref 5] σ Q QX := by
  refine zCT_of zZC_ok pnX3 (Nat.le_of_ble_eq_true rfl) kX3_turnToElse ksX3_turnToElse JX3_turnToElse 1 (fun t ht => ?_) hX3_turnToElse jnX3_turnToElse (JIX3_turnToElse  Q QX) (LIX3_turnToElse ) (fun n t ln σ' ht hj hI => ?_) (fun m t ln σ' ht hj hI => ?_) (pX3_turnToElse_0  Q QX  σ h0)
  · cases ht
  · cases ht
  · cases ht
def JX4_add : Nat → Bool := fun t => Nat.beq t 3
def jnX4_add : Nat → Bool := fun t => false && Nat.beq t 0
def hX4_add : Nat → List Nat := fun t => bif Nat.beq t 3 then [0, 1, 2] else []
def PX4_add_3 (K3 : Int32 → Int32 → zS → Prop) (Q : Option Value → zS → Prop) (QX : zS → Prop) (x1 : Int32) (x2 : Int32) (σ : zS) : Prop :=
  ((x2 < 0 →
    Q none σ) ∧ (¬ x2 < 0 →
    (((σ.1 1 1) < 0 →
      K3 x1 (x2 + (-8)) σ) ∧ (¬ (σ.1 1 1) < 0 →
      (((nI 16000) ≤ (σ.1 1 1) →
        K3 x1 (x2 + (-8)) σ) ∧ (¬ (nI 16000) ≤ (σ.1 1 1) →
        vp_in (σ.1 1 1) 16000 ∧ ∀ s1 : zS, s1 = zsI σ 10 (σ.1 1 1).toNatClampNeg (vp_nar .byte ((((x1).toUInt32 >>> ((x2).toUInt32 &&& Int32.toUInt32 31)).toInt32).toInt8.toInt32)) →
        ∀ s2 : zS, s2 = zsI s1 1 1 ((s1.1 1 1) + (1 : Int32)) →
        K3 x1 (x2 + (-8)) s2))))))
def PX4_add_0 (K3 : Int32 → Int32 → zS → Prop) (Q : Option Value → zS → Prop) (QX : zS → Prop) (a1 : Int32) (σ : zS) : Prop :=
  K3 a1 (24 : Int32) σ
def LIX4_add (I3 : Nat → Int32 → Int32 → zS → Prop) : Nat → Nat → zLo → zS → Prop := fun t n l τ => bif Nat.beq t 3 then zdR 0 1 (zdI 1 (fun x1 => zdI 2 (fun x2 => zdN (I3 n x1 x2 τ)))) l else False
def JIX4_add (I3 : Nat → Int32 → Int32 → zS → Prop) (Q : Option Value → zS → Prop) (QX : zS → Prop) : Nat → Option Nat → zLo → zS → Prop := fun t n l τ => False
set_option maxRecDepth 50000 in
theorem pX4_add_0 (I3 : Nat → Int32 → Int32 → zS → Prop) (Q : Option Value → zS → Prop) (QX : zS → Prop)  (a1 : Int32) (σ : zS) (h : PX4_add_0 (fun y1 y2 τ => ∃ n', zlt n' none ∧ I3 n' y1 y2 τ) Q QX a1 σ) : zwp JX4_add (zB hX4_add (zKt jnX4_add (JIX4_add I3 Q QX) (LIX4_add I3) none 0)) Q QX kX4_add 0 (lv_args 0 [.ref 1, .int a1]) [] σ := h
set_option maxRecDepth 50000 in
theorem pX4_add_3 (I3 : Nat → Int32 → Int32 → zS → Prop) (Q : Option Value → zS → Prop) (QX : zS → Prop) (m : Nat) (x1 : Int32) (x2 : Int32) (σ : zS) (h : PX4_add_3 (fun y1 y2 τ => ∃ n', zlt n' (some m) ∧ I3 n' y1 y2 τ) Q QX x1 x2 σ) : zwp JX4_add (zB hX4_add (zKt jnX4_add (JIX4_add I3 Q QX) (LIX4_add I3) (some m) 3)) Q QX kX4_add 3 [(0, .ref 1), (1, .int x1), (2, .int x2)] [] σ := h
set_option maxRecDepth 50000 in
theorem rX4_add {Q : Option Value → zS → Prop} {QX : zS → Prop} {a1 : Int32} {σ : zS} (I3 : Nat → Int32 → Int32 → zS → Prop) (hs3 : ∀ (m : Nat) (x1 : Int32) (x2 : Int32) (σ : zS), I3 m x1 x2 σ → PX4_add_3 (fun y1 y2 τ => ∃ n', zlt n' (some m) ∧ I3 n' y1 y2 τ) Q QX x1 x2 σ) (h0 : PX4_add_0 (fun y1 y2 τ => ∃ n', zlt n' none ∧ I3 n' y1 y2 τ) Q QX a1 σ) : zCT zZC zmX4_add [.ref 1, .int a1] σ Q QX := by
  refine zCT_of zZC_ok pnX4 (Nat.le_of_ble_eq_true rfl) kX4_add ksX4_add JX4_add 4 (fun t ht => ?_) hX4_add jnX4_add (JIX4_add I3 Q QX) (LIX4_add I3) (fun n t ln σ' ht hj hI => ?_) (fun m t ln σ' ht hj hI => ?_) (pX4_add_0 I3 Q QX a1 σ h0)
  · have et := Nat.eq_of_beq_eq_true ht; subst et
    exact Nat.le_of_ble_eq_true rfl
  · have et := Nat.eq_of_beq_eq_true ht; subst et
    cases hj
  · have et := Nat.eq_of_beq_eq_true ht; subst et
    have hI : LIX4_add I3 3 m ln σ' := hI
    obtain ⟨l0, e0, hI⟩ := zdR_e (i := 0) (q := 1) hI; subst e0
    obtain ⟨x1, l1, e1, hI⟩ := zdI_e (i := 1) hI; subst e1
    obtain ⟨x2, l2, e2, hI⟩ := zdI_e (i := 2) hI; subst e2
    obtain ⟨e, hI⟩ := zdN_e hI; subst e
    exact pX4_add_3 I3 Q QX m x1 x2 σ' (hs3 m x1 x2 σ' hI)
def JX4_fail : Nat → Bool := fun t => false && Nat.beq t 0
def jnX4_fail : Nat → Bool := fun t => false && Nat.beq t 0
def hX4_fail : Nat → List Nat := fun t => []
def PX4_fail_0  (Q : Option Value → zS → Prop) (QX : zS → Prop) (a1 : Int32) (a2 : Int32) (σ : zS) : Prop :=
  (((σ.1 1 4) = 0 →
    ∀ s1 : zS, s1 = zsI σ 1 4 a1 →
    ∀ s2 : zS, s2 = zsI s1 1 5 a2 →
    Q none s2) ∧ (¬ (σ.1 1 4) = 0 →
    Q none σ))
def LIX4_fail  : Nat → Nat → zLo → zS → Prop := fun t n l τ => False
def JIX4_fail  (Q : Option Value → zS → Prop) (QX : zS → Prop) : Nat → Option Nat → zLo → zS → Prop := fun t n l τ => False
set_option maxRecDepth 50000 in
theorem pX4_fail_0  (Q : Option Value → zS → Prop) (QX : zS → Prop)  (a1 : Int32) (a2 : Int32) (σ : zS) (h : PX4_fail_0  Q QX a1 a2 σ) : zwp JX4_fail (zB hX4_fail (zKt jnX4_fail (JIX4_fail  Q QX) (LIX4_fail ) none 0)) Q QX kX4_fail 0 (lv_args 0 [.ref 1, .int a1, .int a2]) [] σ := h
set_option maxRecDepth 50000 in
theorem rX4_fail {Q : Option Value → zS → Prop} {QX : zS → Prop} {a1 : Int32} {a2 : Int32} {σ : zS}   (h0 : PX4_fail_0  Q QX a1 a2 σ) : zCT zZC zmX4_fail [.ref 1, .int a1, .int a2] σ Q QX := by
  refine zCT_of zZC_ok pnX4 (Nat.le_of_ble_eq_true rfl) kX4_fail ksX4_fail JX4_fail 1 (fun t ht => ?_) hX4_fail jnX4_fail (JIX4_fail  Q QX) (LIX4_fail ) (fun n t ln σ' ht hj hI => ?_) (fun m t ln σ' ht hj hI => ?_) (pX4_fail_0  Q QX a1 a2 σ h0)
  · cases ht
  · cases ht
  · cases ht
def JX4_octet : Nat → Bool := fun t => false && Nat.beq t 0
def jnX4_octet : Nat → Bool := fun t => false && Nat.beq t 0
def hX4_octet : Nat → List Nat := fun t => []
def PX4_octet_0  (Q : Option Value → zS → Prop) (QX : zS → Prop)  (σ : zS) : Prop :=
  (((σ.1 1 4) = 0 →
    (((σ.1 1 2) < 0 →
      ∀ s1 : zS, s1 = zsI σ 1 4 (1 : Int32) →
      ∀ s2 : zS, s2 = zsI s1 1 5 (s1.1 1 3) →
      Q (some (.int (0 : Int32))) s2) ∧ (¬ (σ.1 1 2) < 0 →
      (((σ.1 1 3) ≤ (σ.1 1 2) →
        ∀ s3 : zS, s3 = zsI σ 1 4 (1 : Int32) →
        ∀ s4 : zS, s4 = zsI s3 1 5 (s3.1 1 3) →
        Q (some (.int (0 : Int32))) s4) ∧ (¬ (σ.1 1 3) ≤ (σ.1 1 2) →
        (((σ.1 1 2) < (nI 16000) →
          vp_in (σ.1 1 2) 16000 ∧
          ∀ s5 : zS, s5 = zsI σ 1 2 ((σ.1 1 2) + (1 : Int32)) →
          Q (some (.int ((σ.1 10 (σ.1 1 2).toNatClampNeg) &&& (255 : Int32)))) s5) ∧ (¬ (σ.1 1 2) < (nI 16000) →
          ∀ s6 : zS, s6 = zsI σ 1 4 (1 : Int32) →
          ∀ s7 : zS, s7 = zsI s6 1 5 (s6.1 1 3) →
          Q (some (.int (0 : Int32))) s7))))))) ∧ (¬ (σ.1 1 4) = 0 →
    Q (some (.int (0 : Int32))) σ))
def LIX4_octet  : Nat → Nat → zLo → zS → Prop := fun t n l τ => False
def JIX4_octet  (Q : Option Value → zS → Prop) (QX : zS → Prop) : Nat → Option Nat → zLo → zS → Prop := fun t n l τ => False
set_option maxRecDepth 50000 in
theorem pX4_octet_0  (Q : Option Value → zS → Prop) (QX : zS → Prop)   (σ : zS) (h : PX4_octet_0  Q QX  σ) : zwp JX4_octet (zB hX4_octet (zKt jnX4_octet (JIX4_octet  Q QX) (LIX4_octet ) none 0)) Q QX kX4_octet 0 (lv_args 0 [.ref 1]) [] σ := h
set_option maxRecDepth 50000 in
theorem rX4_octet {Q : Option Value → zS → Prop} {QX : zS → Prop}  {σ : zS}   (h0 : PX4_octet_0  Q QX  σ) : zCT zZC zmX4_octet [.ref 1] σ Q QX := by
  refine zCT_of zZC_ok pnX4 (Nat.le_of_ble_eq_true rfl) kX4_octet ksX4_octet JX4_octet 1 (fun t ht => ?_) hX4_octet jnX4_octet (JIX4_octet  Q QX) (LIX4_octet ) (fun n t ln σ' ht hj hI => ?_) (fun m t ln σ' ht hj hI => ?_) (pX4_octet_0  Q QX  σ h0)
  · cases ht
  · cases ht
  · cases ht
def JX4_restart : Nat → Bool := fun t => false && Nat.beq t 0
def jnX4_restart : Nat → Bool := fun t => false && Nat.beq t 0
def hX4_restart : Nat → List Nat := fun t => []
def PX4_restart_0  (Q : Option Value → zS → Prop) (QX : zS → Prop)  (σ : zS) : Prop :=
  ∀ s1 : zS, s1 = zsI σ 1 2 (0 : Int32) →
  ∀ s2 : zS, s2 = zsI s1 1 3 (s1.1 1 1) →
  ∀ s3 : zS, s3 = zsI s2 1 4 (0 : Int32) →
  ∀ s4 : zS, s4 = zsI s3 1 5 (-1 : Int32) →
  Q none s4
def LIX4_restart  : Nat → Nat → zLo → zS → Prop := fun t n l τ => False
def JIX4_restart  (Q : Option Value → zS → Prop) (QX : zS → Prop) : Nat → Option Nat → zLo → zS → Prop := fun t n l τ => False
set_option maxRecDepth 50000 in
theorem pX4_restart_0  (Q : Option Value → zS → Prop) (QX : zS → Prop)   (σ : zS) (h : PX4_restart_0  Q QX  σ) : zwp JX4_restart (zB hX4_restart (zKt jnX4_restart (JIX4_restart  Q QX) (LIX4_restart ) none 0)) Q QX kX4_restart 0 (lv_args 0 [.ref 1]) [] σ := h
set_option maxRecDepth 50000 in
theorem rX4_restart {Q : Option Value → zS → Prop} {QX : zS → Prop}  {σ : zS}   (h0 : PX4_restart_0  Q QX  σ) : zCT zZC zmX4_restart [.ref 1] σ Q QX := by
  refine zCT_of zZC_ok pnX4 (Nat.le_of_ble_eq_true rfl) kX4_restart ksX4_restart JX4_restart 1 (fun t ht => ?_) hX4_restart jnX4_restart (JIX4_restart  Q QX) (LIX4_restart ) (fun n t ln σ' ht hj hI => ?_) (fun m t ln σ' ht hj hI => ?_) (pX4_restart_0  Q QX  σ h0)
  · cases ht
  · cases ht
  · cases ht
def JX4_sameBytes : Nat → Bool := fun t => Nat.beq t 35
def jnX4_sameBytes : Nat → Bool := fun t => false && Nat.beq t 0
def hX4_sameBytes : Nat → List Nat := fun t => bif Nat.beq t 35 then [0, 1, 2, 3, 4] else []
def PX4_sameBytes_35 (K35 : Int32 → Int32 → Int32 → Int32 → zS → Prop) (Q : Option Value → zS → Prop) (QX : zS → Prop) (x1 : Int32) (x2 : Int32) (x3 : Int32) (x4 : Int32) (σ : zS) : Prop :=
  ((x3 ≤ x4 →
    ((1 : Int32) = 0 ∨ (1 : Int32) = 1) ∧ Q (some (.int (1 : Int32))) σ) ∧ (¬ x3 ≤ x4 →
    vp_in (x1 + x4) 16000 ∧
    vp_in (x2 + x4) 16000 ∧
    (((σ.1 10 (x1 + x4).toNatClampNeg) = (σ.1 10 (x2 + x4).toNatClampNeg) →
      K35 x1 x2 x3 (x4 + 1) σ) ∧ (¬ (σ.1 10 (x1 + x4).toNatClampNeg) = (σ.1 10 (x2 + x4).toNatClampNeg) →
      ((0 : Int32) = 0 ∨ (0 : Int32) = 1) ∧ Q (some (.int (0 : Int32))) σ))))
def PX4_sameBytes_0 (K35 : Int32 → Int32 → Int32 → Int32 → zS → Prop) (Q : Option Value → zS → Prop) (QX : zS → Prop) (a1 : Int32) (a2 : Int32) (a3 : Int32) (σ : zS) : Prop :=
  ((a1 < 0 →
    ((0 : Int32) = 0 ∨ (0 : Int32) = 1) ∧ Q (some (.int (0 : Int32))) σ) ∧ (¬ a1 < 0 →
    ((a2 < 0 →
      ((0 : Int32) = 0 ∨ (0 : Int32) = 1) ∧ Q (some (.int (0 : Int32))) σ) ∧ (¬ a2 < 0 →
      ((((nI 16000) - a3) < a1 →
        ((0 : Int32) = 0 ∨ (0 : Int32) = 1) ∧ Q (some (.int (0 : Int32))) σ) ∧ (¬ ((nI 16000) - a3) < a1 →
        ((a2 ≤ ((nI 16000) - a3) →
          K35 a1 a2 a3 (0 : Int32) σ) ∧ (¬ a2 ≤ ((nI 16000) - a3) →
          ((0 : Int32) = 0 ∨ (0 : Int32) = 1) ∧ Q (some (.int (0 : Int32))) σ))))))))
def LIX4_sameBytes (I35 : Nat → Int32 → Int32 → Int32 → Int32 → zS → Prop) : Nat → Nat → zLo → zS → Prop := fun t n l τ => bif Nat.beq t 35 then zdR 0 1 (zdI 1 (fun x1 => zdI 2 (fun x2 => zdI 3 (fun x3 => zdI 4 (fun x4 => zdN (I35 n x1 x2 x3 x4 τ)))))) l else False
def JIX4_sameBytes (I35 : Nat → Int32 → Int32 → Int32 → Int32 → zS → Prop) (Q : Option Value → zS → Prop) (QX : zS → Prop) : Nat → Option Nat → zLo → zS → Prop := fun t n l τ => False
set_option maxRecDepth 50000 in
theorem pX4_sameBytes_0 (I35 : Nat → Int32 → Int32 → Int32 → Int32 → zS → Prop) (Q : Option Value → zS → Prop) (QX : zS → Prop)  (a1 : Int32) (a2 : Int32) (a3 : Int32) (σ : zS) (h : PX4_sameBytes_0 (fun y1 y2 y3 y4 τ => ∃ n', zlt n' none ∧ I35 n' y1 y2 y3 y4 τ) Q QX a1 a2 a3 σ) : zwp JX4_sameBytes (zB hX4_sameBytes (zKt jnX4_sameBytes (JIX4_sameBytes I35 Q QX) (LIX4_sameBytes I35) none 0)) Q QX kX4_sameBytes 0 (lv_args 0 [.ref 1, .int a1, .int a2, .int a3]) [] σ := h
set_option maxRecDepth 50000 in
theorem pX4_sameBytes_35 (I35 : Nat → Int32 → Int32 → Int32 → Int32 → zS → Prop) (Q : Option Value → zS → Prop) (QX : zS → Prop) (m : Nat) (x1 : Int32) (x2 : Int32) (x3 : Int32) (x4 : Int32) (σ : zS) (h : PX4_sameBytes_35 (fun y1 y2 y3 y4 τ => ∃ n', zlt n' (some m) ∧ I35 n' y1 y2 y3 y4 τ) Q QX x1 x2 x3 x4 σ) : zwp JX4_sameBytes (zB hX4_sameBytes (zKt jnX4_sameBytes (JIX4_sameBytes I35 Q QX) (LIX4_sameBytes I35) (some m) 35)) Q QX kX4_sameBytes 35 [(0, .ref 1), (1, .int x1), (2, .int x2), (3, .int x3), (4, .int x4)] [] σ := h
set_option maxRecDepth 50000 in
theorem rX4_sameBytes {Q : Option Value → zS → Prop} {QX : zS → Prop} {a1 : Int32} {a2 : Int32} {a3 : Int32} {σ : zS} (I35 : Nat → Int32 → Int32 → Int32 → Int32 → zS → Prop) (hs35 : ∀ (m : Nat) (x1 : Int32) (x2 : Int32) (x3 : Int32) (x4 : Int32) (σ : zS), I35 m x1 x2 x3 x4 σ → PX4_sameBytes_35 (fun y1 y2 y3 y4 τ => ∃ n', zlt n' (some m) ∧ I35 n' y1 y2 y3 y4 τ) Q QX x1 x2 x3 x4 σ) (h0 : PX4_sameBytes_0 (fun y1 y2 y3 y4 τ => ∃ n', zlt n' none ∧ I35 n' y1 y2 y3 y4 τ) Q QX a1 a2 a3 σ) : zCT zZC zmX4_sameBytes [.ref 1, .int a1, .int a2, .int a3] σ Q QX := by
  refine zCT_of zZC_ok pnX4 (Nat.le_of_ble_eq_true rfl) kX4_sameBytes ksX4_sameBytes JX4_sameBytes 36 (fun t ht => ?_) hX4_sameBytes jnX4_sameBytes (JIX4_sameBytes I35 Q QX) (LIX4_sameBytes I35) (fun n t ln σ' ht hj hI => ?_) (fun m t ln σ' ht hj hI => ?_) (pX4_sameBytes_0 I35 Q QX a1 a2 a3 σ h0)
  · have et := Nat.eq_of_beq_eq_true ht; subst et
    exact Nat.le_of_ble_eq_true rfl
  · have et := Nat.eq_of_beq_eq_true ht; subst et
    cases hj
  · have et := Nat.eq_of_beq_eq_true ht; subst et
    have hI : LIX4_sameBytes I35 35 m ln σ' := hI
    obtain ⟨l0, e0, hI⟩ := zdR_e (i := 0) (q := 1) hI; subst e0
    obtain ⟨x1, l1, e1, hI⟩ := zdI_e (i := 1) hI; subst e1
    obtain ⟨x2, l2, e2, hI⟩ := zdI_e (i := 2) hI; subst e2
    obtain ⟨x3, l3, e3, hI⟩ := zdI_e (i := 3) hI; subst e3
    obtain ⟨x4, l4, e4, hI⟩ := zdI_e (i := 4) hI; subst e4
    obtain ⟨e, hI⟩ := zdN_e hI; subst e
    exact pX4_sameBytes_35 I35 Q QX m x1 x2 x3 x4 σ' (hs35 m x1 x2 x3 x4 σ' hI)
def JX4_skipRest : Nat → Bool := fun t => false && Nat.beq t 0
def jnX4_skipRest : Nat → Bool := fun t => false && Nat.beq t 0
def hX4_skipRest : Nat → List Nat := fun t => []
def PX4_skipRest_0  (Q : Option Value → zS → Prop) (QX : zS → Prop)  (σ : zS) : Prop :=
  ∀ s1 : zS, s1 = zsI σ 1 2 (if (σ.1 1 2) < (σ.1 1 3) then (σ.1 1 3) else (σ.1 1 2)) →
  Q none s1
def LIX4_skipRest  : Nat → Nat → zLo → zS → Prop := fun t n l τ => False
def JIX4_skipRest  (Q : Option Value → zS → Prop) (QX : zS → Prop) : Nat → Option Nat → zLo → zS → Prop := fun t n l τ => False
set_option maxRecDepth 50000 in
theorem pX4_skipRest_0  (Q : Option Value → zS → Prop) (QX : zS → Prop)   (σ : zS) (h : PX4_skipRest_0  Q QX  σ) : zwp JX4_skipRest (zB hX4_skipRest (zKt jnX4_skipRest (JIX4_skipRest  Q QX) (LIX4_skipRest ) none 0)) Q QX kX4_skipRest 0 (lv_args 0 [.ref 1]) [] σ := h
set_option maxRecDepth 50000 in
theorem rX4_skipRest {Q : Option Value → zS → Prop} {QX : zS → Prop}  {σ : zS}   (h0 : PX4_skipRest_0  Q QX  σ) : zCT zZC zmX4_skipRest [.ref 1] σ Q QX := by
  refine zCT_of zZC_ok pnX4 (Nat.le_of_ble_eq_true rfl) kX4_skipRest ksX4_skipRest JX4_skipRest 1 (fun t ht => ?_) hX4_skipRest jnX4_skipRest (JIX4_skipRest  Q QX) (LIX4_skipRest ) (fun n t ln σ' ht hj hI => ?_) (fun m t ln σ' ht hj hI => ?_) (pX4_skipRest_0  Q QX  σ h0)
  · cases ht
  · cases ht
  · cases ht
def JX5_isOfOneByte : Nat → Bool := fun t => Nat.beq t 2
def jnX5_isOfOneByte : Nat → Bool := fun t => false && Nat.beq t 0
def hX5_isOfOneByte : Nat → List Nat := fun t => bif Nat.beq t 2 then [0, 1] else []
def PX5_isOfOneByte_2 (K2 : Int32 → Int32 → zS → Prop) (Q : Option Value → zS → Prop) (QX : zS → Prop) (x0 : Int32) (x1 : Int32) (σ : zS) : Prop :=
  (((nI zt_INSTRUCTION_RUNS_n) ≤ (x1 + (1 : Int32)) →
    ((0 : Int32) = 0 ∨ (0 : Int32) = 1) ∧ Q (some (.int (0 : Int32))) σ) ∧ (¬ (nI zt_INSTRUCTION_RUNS_n) ≤ (x1 + (1 : Int32)) →
    vp_in (x1 + (1 : Int32)) zt_INSTRUCTION_RUNS_n ∧
    (((zt_INSTRUCTION_RUNS_f (x1 + (1 : Int32)).toNatClampNeg) < x0 →
      K2 x0 (x1 + 2) σ) ∧ (¬ (zt_INSTRUCTION_RUNS_f (x1 + (1 : Int32)).toNatClampNeg) < x0 →
      vp_in x1 zt_INSTRUCTION_RUNS_n ∧
      ((x0 < (zt_INSTRUCTION_RUNS_f x1.toNatClampNeg) →
        ((0 : Int32) = 0 ∨ (0 : Int32) = 1) ∧ Q (some (.int (0 : Int32))) σ) ∧ (¬ x0 < (zt_INSTRUCTION_RUNS_f x1.toNatClampNeg) →
        ((1 : Int32) = 0 ∨ (1 : Int32) = 1) ∧ Q (some (.int (1 : Int32))) σ))))))
def PX5_isOfOneByte_0 (K2 : Int32 → Int32 → zS → Prop) (Q : Option Value → zS → Prop) (QX : zS → Prop) (a1 : Int32) (σ : zS) : Prop :=
  K2 a1 (0 : Int32) σ
def LIX5_isOfOneByte (I2 : Nat → Int32 → Int32 → zS → Prop) : Nat → Nat → zLo → zS → Prop := fun t n l τ => bif Nat.beq t 2 then zdI 0 (fun x0 => zdI 1 (fun x1 => zdN (I2 n x0 x1 τ))) l else False
def JIX5_isOfOneByte (I2 : Nat → Int32 → Int32 → zS → Prop) (Q : Option Value → zS → Prop) (QX : zS → Prop) : Nat → Option Nat → zLo → zS → Prop := fun t n l τ => False
set_option maxRecDepth 50000 in
theorem pX5_isOfOneByte_0 (I2 : Nat → Int32 → Int32 → zS → Prop) (Q : Option Value → zS → Prop) (QX : zS → Prop)  (a1 : Int32) (σ : zS) (h : PX5_isOfOneByte_0 (fun y0 y1 τ => ∃ n', zlt n' none ∧ I2 n' y0 y1 τ) Q QX a1 σ) : zwp JX5_isOfOneByte (zB hX5_isOfOneByte (zKt jnX5_isOfOneByte (JIX5_isOfOneByte I2 Q QX) (LIX5_isOfOneByte I2) none 0)) Q QX kX5_isOfOneByte 0 (lv_args 0 [.int a1]) [] σ := h
set_option maxRecDepth 50000 in
theorem pX5_isOfOneByte_2 (I2 : Nat → Int32 → Int32 → zS → Prop) (Q : Option Value → zS → Prop) (QX : zS → Prop) (m : Nat) (x0 : Int32) (x1 : Int32) (σ : zS) (h : PX5_isOfOneByte_2 (fun y0 y1 τ => ∃ n', zlt n' (some m) ∧ I2 n' y0 y1 τ) Q QX x0 x1 σ) : zwp JX5_isOfOneByte (zB hX5_isOfOneByte (zKt jnX5_isOfOneByte (JIX5_isOfOneByte I2 Q QX) (LIX5_isOfOneByte I2) (some m) 2)) Q QX kX5_isOfOneByte 2 [(0, .int x0), (1, .int x1)] [] σ := h
set_option maxRecDepth 50000 in
theorem rX5_isOfOneByte {Q : Option Value → zS → Prop} {QX : zS → Prop} {a1 : Int32} {σ : zS} (I2 : Nat → Int32 → Int32 → zS → Prop) (hs2 : ∀ (m : Nat) (x0 : Int32) (x1 : Int32) (σ : zS), I2 m x0 x1 σ → PX5_isOfOneByte_2 (fun y0 y1 τ => ∃ n', zlt n' (some m) ∧ I2 n' y0 y1 τ) Q QX x0 x1 σ) (h0 : PX5_isOfOneByte_0 (fun y0 y1 τ => ∃ n', zlt n' none ∧ I2 n' y0 y1 τ) Q QX a1 σ) : zCT zZC zmX5_isOfOneByte [.int a1] σ Q QX := by
  refine zCT_of zZC_ok pnX5 (Nat.le_of_ble_eq_true rfl) kX5_isOfOneByte ksX5_isOfOneByte JX5_isOfOneByte 3 (fun t ht => ?_) hX5_isOfOneByte jnX5_isOfOneByte (JIX5_isOfOneByte I2 Q QX) (LIX5_isOfOneByte I2) (fun n t ln σ' ht hj hI => ?_) (fun m t ln σ' ht hj hI => ?_) (pX5_isOfOneByte_0 I2 Q QX a1 σ h0)
  · have et := Nat.eq_of_beq_eq_true ht; subst et
    exact Nat.le_of_ble_eq_true rfl
  · have et := Nat.eq_of_beq_eq_true ht; subst et
    cases hj
  · have et := Nat.eq_of_beq_eq_true ht; subst et
    have hI : LIX5_isOfOneByte I2 2 m ln σ' := hI
    obtain ⟨x0, l0, e0, hI⟩ := zdI_e (i := 0) hI; subst e0
    obtain ⟨x1, l1, e1, hI⟩ := zdI_e (i := 1) hI; subst e1
    obtain ⟨e, hI⟩ := zdN_e hI; subst e
    exact pX5_isOfOneByte_2 I2 Q QX m x0 x1 σ' (hs2 m x0 x1 σ' hI)
def JX6_areMore : Nat → Bool := fun t => false && Nat.beq t 0
def jnX6_areMore : Nat → Bool := fun t => false && Nat.beq t 0
def hX6_areMore : Nat → List Nat := fun t => []
def PX6_areMore_0  (Q : Option Value → zS → Prop) (QX : zS → Prop)  (σ : zS) : Prop :=
  (((σ.1 1 4) = 0 →
    (((σ.1 1 3) ≤ (σ.1 1 2) →
      ((0 : Int32) = 0 ∨ (0 : Int32) = 1) ∧ Q (some (.int (0 : Int32))) σ) ∧ (¬ (σ.1 1 3) ≤ (σ.1 1 2) →
      ((1 : Int32) = 0 ∨ (1 : Int32) = 1) ∧ Q (some (.int (1 : Int32))) σ))) ∧ (¬ (σ.1 1 4) = 0 →
    ((0 : Int32) = 0 ∨ (0 : Int32) = 1) ∧ Q (some (.int (0 : Int32))) σ))
def LIX6_areMore  : Nat → Nat → zLo → zS → Prop := fun t n l τ => False
def JIX6_areMore  (Q : Option Value → zS → Prop) (QX : zS → Prop) : Nat → Option Nat → zLo → zS → Prop := fun t n l τ => False
set_option maxRecDepth 50000 in
theorem pX6_areMore_0  (Q : Option Value → zS → Prop) (QX : zS → Prop)   (σ : zS) (h : PX6_areMore_0  Q QX  σ) : zwp JX6_areMore (zB hX6_areMore (zKt jnX6_areMore (JIX6_areMore  Q QX) (LIX6_areMore ) none 0)) Q QX kX6_areMore 0 (lv_args 0 [.ref 3]) [] σ := h
set_option maxRecDepth 50000 in
theorem rX6_areMore {Q : Option Value → zS → Prop} {QX : zS → Prop}  {σ : zS}   (h0 : PX6_areMore_0  Q QX  σ) : zCT zZC zmX6_areMore [.ref 3] σ Q QX := by
  refine zCT_of zZC_ok pnX6 (Nat.le_of_ble_eq_true rfl) kX6_areMore ksX6_areMore JX6_areMore 1 (fun t ht => ?_) hX6_areMore jnX6_areMore (JIX6_areMore  Q QX) (LIX6_areMore ) (fun n t ln σ' ht hj hI => ?_) (fun m t ln σ' ht hj hI => ?_) (pX6_areMore_0  Q QX  σ h0)
  · cases ht
  · cases ht
  · cases ht
def JX6_isRow : Nat → Bool := fun t => false && Nat.beq t 0
def jnX6_isRow : Nat → Bool := fun t => false && Nat.beq t 0
def hX6_isRow : Nat → List Nat := fun t => []
def PX6_isRow_0  (Q : Option Value → zS → Prop) (QX : zS → Prop) (a1 : Int32) (σ : zS) : Prop :=
  ((a1 = 0 →
    ((0 : Int32) = 0 ∨ (0 : Int32) = 1) ∧ Q (some (.int (0 : Int32))) σ) ∧ (¬ a1 = 0 →
    ((a1 = (8 : Int32) →
      ((0 : Int32) = 0 ∨ (0 : Int32) = 1) ∧ Q (some (.int (0 : Int32))) σ) ∧ (¬ a1 = (8 : Int32) →
      ((a1 = (12 : Int32) →
        ((0 : Int32) = 0 ∨ (0 : Int32) = 1) ∧ Q (some (.int (0 : Int32))) σ) ∧ (¬ a1 = (12 : Int32) →
        ((1 : Int32) = 0 ∨ (1 : Int32) = 1) ∧ Q (some (.int (1 : Int32))) σ))))))
def LIX6_isRow  : Nat → Nat → zLo → zS → Prop := fun t n l τ => False
def JIX6_isRow  (Q : Option Value → zS → Prop) (QX : zS → Prop) : Nat → Option Nat → zLo → zS → Prop := fun t n l τ => False
set_option maxRecDepth 50000 in
theorem pX6_isRow_0  (Q : Option Value → zS → Prop) (QX : zS → Prop)  (a1 : Int32) (σ : zS) (h : PX6_isRow_0  Q QX a1 σ) : zwp JX6_isRow (zB hX6_isRow (zKt jnX6_isRow (JIX6_isRow  Q QX) (LIX6_isRow ) none 0)) Q QX kX6_isRow 0 (lv_args 0 [.int a1]) [] σ := h
set_option maxRecDepth 50000 in
theorem rX6_isRow {Q : Option Value → zS → Prop} {QX : zS → Prop} {a1 : Int32} {σ : zS}   (h0 : PX6_isRow_0  Q QX a1 σ) : zCT zZC zmX6_isRow [.int a1] σ Q QX := by
  refine zCT_of zZC_ok pnX6 (Nat.le_of_ble_eq_true rfl) kX6_isRow ksX6_isRow JX6_isRow 1 (fun t ht => ?_) hX6_isRow jnX6_isRow (JIX6_isRow  Q QX) (LIX6_isRow ) (fun n t ln σ' ht hj hI => ?_) (fun m t ln σ' ht hj hI => ?_) (pX6_isRow_0  Q QX a1 σ h0)
  · cases ht
  · cases ht
  · cases ht
def JX7_addLocals : Nat → Bool := fun t => Nat.beq t 2
def jnX7_addLocals : Nat → Bool := fun t => false && Nat.beq t 0
def hX7_addLocals : Nat → List Nat := fun t => bif Nat.beq t 2 then [0, 1, 2, 3] else []
def PX7_addLocals_2 (K2 : Int32 → Int32 → Int32 → zS → Prop) (Q : Option Value → zS → Prop) (QX : zS → Prop) (x1 : Int32) (x2 : Int32) (x3 : Int32) (σ : zS) : Prop :=
  ((x1 ≤ x3 →
    Q none σ) ∧ (¬ x1 ≤ x3 →
    (((nI 80) ≤ (σ.1 7 3) →
      Q none σ) ∧ (¬ (nI 80) ≤ (σ.1 7 3) →
      vp_in (σ.1 7 3) 80 ∧ ∀ s1 : zS, s1 = zsI σ 27 (σ.1 7 3).toNatClampNeg x2 →
      ∀ s2 : zS, s2 = zsI s1 7 3 ((s1.1 7 3) + (1 : Int32)) →
      K2 x1 x2 (x3 + 1) s2))))
def PX7_addLocals_0 (K2 : Int32 → Int32 → Int32 → zS → Prop) (Q : Option Value → zS → Prop) (QX : zS → Prop) (a1 : Int32) (a2 : Int32) (σ : zS) : Prop :=
  K2 a1 a2 (0 : Int32) σ
def LIX7_addLocals (I2 : Nat → Int32 → Int32 → Int32 → zS → Prop) : Nat → Nat → zLo → zS → Prop := fun t n l τ => bif Nat.beq t 2 then zdR 0 7 (zdI 1 (fun x1 => zdI 2 (fun x2 => zdI 3 (fun x3 => zdN (I2 n x1 x2 x3 τ))))) l else False
def JIX7_addLocals (I2 : Nat → Int32 → Int32 → Int32 → zS → Prop) (Q : Option Value → zS → Prop) (QX : zS → Prop) : Nat → Option Nat → zLo → zS → Prop := fun t n l τ => False
set_option maxRecDepth 50000 in
theorem pX7_addLocals_0 (I2 : Nat → Int32 → Int32 → Int32 → zS → Prop) (Q : Option Value → zS → Prop) (QX : zS → Prop)  (a1 : Int32) (a2 : Int32) (σ : zS) (h : PX7_addLocals_0 (fun y1 y2 y3 τ => ∃ n', zlt n' none ∧ I2 n' y1 y2 y3 τ) Q QX a1 a2 σ) : zwp JX7_addLocals (zB hX7_addLocals (zKt jnX7_addLocals (JIX7_addLocals I2 Q QX) (LIX7_addLocals I2) none 0)) Q QX kX7_addLocals 0 (lv_args 0 [.ref 7, .int a1, .int a2]) [] σ := h
set_option maxRecDepth 50000 in
theorem pX7_addLocals_2 (I2 : Nat → Int32 → Int32 → Int32 → zS → Prop) (Q : Option Value → zS → Prop) (QX : zS → Prop) (m : Nat) (x1 : Int32) (x2 : Int32) (x3 : Int32) (σ : zS) (h : PX7_addLocals_2 (fun y1 y2 y3 τ => ∃ n', zlt n' (some m) ∧ I2 n' y1 y2 y3 τ) Q QX x1 x2 x3 σ) : zwp JX7_addLocals (zB hX7_addLocals (zKt jnX7_addLocals (JIX7_addLocals I2 Q QX) (LIX7_addLocals I2) (some m) 2)) Q QX kX7_addLocals 2 [(0, .ref 7), (1, .int x1), (2, .int x2), (3, .int x3)] [] σ := h
set_option maxRecDepth 50000 in
theorem rX7_addLocals {Q : Option Value → zS → Prop} {QX : zS → Prop} {a1 : Int32} {a2 : Int32} {σ : zS} (I2 : Nat → Int32 → Int32 → Int32 → zS → Prop) (hs2 : ∀ (m : Nat) (x1 : Int32) (x2 : Int32) (x3 : Int32) (σ : zS), I2 m x1 x2 x3 σ → PX7_addLocals_2 (fun y1 y2 y3 τ => ∃ n', zlt n' (some m) ∧ I2 n' y1 y2 y3 τ) Q QX x1 x2 x3 σ) (h0 : PX7_addLocals_0 (fun y1 y2 y3 τ => ∃ n', zlt n' none ∧ I2 n' y1 y2 y3 τ) Q QX a1 a2 σ) : zCT zZC zmX7_addLocals [.ref 7, .int a1, .int a2] σ Q QX := by
  refine zCT_of zZC_ok pnX7 (Nat.le_of_ble_eq_true rfl) kX7_addLocals ksX7_addLocals JX7_addLocals 3 (fun t ht => ?_) hX7_addLocals jnX7_addLocals (JIX7_addLocals I2 Q QX) (LIX7_addLocals I2) (fun n t ln σ' ht hj hI => ?_) (fun m t ln σ' ht hj hI => ?_) (pX7_addLocals_0 I2 Q QX a1 a2 σ h0)
  · have et := Nat.eq_of_beq_eq_true ht; subst et
    exact Nat.le_of_ble_eq_true rfl
  · have et := Nat.eq_of_beq_eq_true ht; subst et
    cases hj
  · have et := Nat.eq_of_beq_eq_true ht; subst et
    have hI : LIX7_addLocals I2 2 m ln σ' := hI
    obtain ⟨l0, e0, hI⟩ := zdR_e (i := 0) (q := 7) hI; subst e0
    obtain ⟨x1, l1, e1, hI⟩ := zdI_e (i := 1) hI; subst e1
    obtain ⟨x2, l2, e2, hI⟩ := zdI_e (i := 2) hI; subst e2
    obtain ⟨x3, l3, e3, hI⟩ := zdI_e (i := 3) hI; subst e3
    obtain ⟨e, hI⟩ := zdN_e hI; subst e
    exact pX7_addLocals_2 I2 Q QX m x1 x2 x3 σ' (hs2 m x1 x2 x3 σ' hI)
def JX7_leavesLong : Nat → Bool := fun t => false && Nat.beq t 0
def jnX7_leavesLong : Nat → Bool := fun t => false && Nat.beq t 0
def hX7_leavesLong : Nat → List Nat := fun t => []
def PX7_leavesLong_0  (Q : Option Value → zS → Prop) (QX : zS → Prop) (a1 : Int32) (σ : zS) : Prop :=
  ((a1 < (121 : Int32) →
    ((a1 = (172 : Int32) →
      ((1 : Int32) = 0 ∨ (1 : Int32) = 1) ∧ Q (some (.int (1 : Int32))) σ) ∧ (¬ a1 = (172 : Int32) →
      ((a1 = (173 : Int32) →
        ((1 : Int32) = 0 ∨ (1 : Int32) = 1) ∧ Q (some (.int (1 : Int32))) σ) ∧ (¬ a1 = (173 : Int32) →
        ((a1 < (194 : Int32) →
          ((0 : Int32) = 0 ∨ (0 : Int32) = 1) ∧ Q (some (.int (0 : Int32))) σ) ∧ (¬ a1 < (194 : Int32) →
          ((1 : Int32) = 0 ∨ (1 : Int32) = 1) ∧ Q (some (.int (1 : Int32))) σ))))))) ∧ (¬ a1 < (121 : Int32) →
    ((a1 ≤ (138 : Int32) →
      ((1 : Int32) = 0 ∨ (1 : Int32) = 1) ∧ Q (some (.int (1 : Int32))) σ) ∧ (¬ a1 ≤ (138 : Int32) →
      ((a1 = (172 : Int32) →
        ((1 : Int32) = 0 ∨ (1 : Int32) = 1) ∧ Q (some (.int (1 : Int32))) σ) ∧ (¬ a1 = (172 : Int32) →
        ((a1 = (173 : Int32) →
          ((1 : Int32) = 0 ∨ (1 : Int32) = 1) ∧ Q (some (.int (1 : Int32))) σ) ∧ (¬ a1 = (173 : Int32) →
          ((a1 < (194 : Int32) →
            ((0 : Int32) = 0 ∨ (0 : Int32) = 1) ∧ Q (some (.int (0 : Int32))) σ) ∧ (¬ a1 < (194 : Int32) →
            ((1 : Int32) = 0 ∨ (1 : Int32) = 1) ∧ Q (some (.int (1 : Int32))) σ))))))))))
def LIX7_leavesLong  : Nat → Nat → zLo → zS → Prop := fun t n l τ => False
def JIX7_leavesLong  (Q : Option Value → zS → Prop) (QX : zS → Prop) : Nat → Option Nat → zLo → zS → Prop := fun t n l τ => False
set_option maxRecDepth 50000 in
theorem pX7_leavesLong_0  (Q : Option Value → zS → Prop) (QX : zS → Prop)  (a1 : Int32) (σ : zS) (h : PX7_leavesLong_0  Q QX a1 σ) : zwp JX7_leavesLong (zB hX7_leavesLong (zKt jnX7_leavesLong (JIX7_leavesLong  Q QX) (LIX7_leavesLong ) none 0)) Q QX kX7_leavesLong 0 (lv_args 0 [.int a1]) [] σ := h
set_option maxRecDepth 50000 in
theorem rX7_leavesLong {Q : Option Value → zS → Prop} {QX : zS → Prop} {a1 : Int32} {σ : zS}   (h0 : PX7_leavesLong_0  Q QX a1 σ) : zCT zZC zmX7_leavesLong [.int a1] σ Q QX := by
  refine zCT_of zZC_ok pnX7 (Nat.le_of_ble_eq_true rfl) kX7_leavesLong ksX7_leavesLong JX7_leavesLong 1 (fun t ht => ?_) hX7_leavesLong jnX7_leavesLong (JIX7_leavesLong  Q QX) (LIX7_leavesLong ) (fun n t ln σ' ht hj hI => ?_) (fun m t ln σ' ht hj hI => ?_) (pX7_leavesLong_0  Q QX a1 σ h0)
  · cases ht
  · cases ht
  · cases ht
def JX7_takesLong : Nat → Bool := fun t => false && Nat.beq t 0
def jnX7_takesLong : Nat → Bool := fun t => false && Nat.beq t 0
def hX7_takesLong : Nat → List Nat := fun t => []
def PX7_takesLong_0  (Q : Option Value → zS → Prop) (QX : zS → Prop) (a1 : Int32) (σ : zS) : Prop :=
  ((a1 < (80 : Int32) →
    ((a1 < (121 : Int32) →
      ((a1 = (167 : Int32) →
        ((1 : Int32) = 0 ∨ (1 : Int32) = 1) ∧ Q (some (.int (1 : Int32))) σ) ∧ (¬ a1 = (167 : Int32) →
        ((a1 < (194 : Int32) →
          ((0 : Int32) = 0 ∨ (0 : Int32) = 1) ∧ Q (some (.int (0 : Int32))) σ) ∧ (¬ a1 < (194 : Int32) →
          ((1 : Int32) = 0 ∨ (1 : Int32) = 1) ∧ Q (some (.int (1 : Int32))) σ))))) ∧ (¬ a1 < (121 : Int32) →
      ((a1 ≤ (138 : Int32) →
        ((1 : Int32) = 0 ∨ (1 : Int32) = 1) ∧ Q (some (.int (1 : Int32))) σ) ∧ (¬ a1 ≤ (138 : Int32) →
        ((a1 = (167 : Int32) →
          ((1 : Int32) = 0 ∨ (1 : Int32) = 1) ∧ Q (some (.int (1 : Int32))) σ) ∧ (¬ a1 = (167 : Int32) →
          ((a1 < (194 : Int32) →
            ((0 : Int32) = 0 ∨ (0 : Int32) = 1) ∧ Q (some (.int (0 : Int32))) σ) ∧ (¬ a1 < (194 : Int32) →
            ((1 : Int32) = 0 ∨ (1 : Int32) = 1) ∧ Q (some (.int (1 : Int32))) σ))))))))) ∧ (¬ a1 < (80 : Int32) →
    ((a1 ≤ (90 : Int32) →
      ((1 : Int32) = 0 ∨ (1 : Int32) = 1) ∧ Q (some (.int (1 : Int32))) σ) ∧ (¬ a1 ≤ (90 : Int32) →
      ((a1 < (121 : Int32) →
        ((a1 = (167 : Int32) →
          ((1 : Int32) = 0 ∨ (1 : Int32) = 1) ∧ Q (some (.int (1 : Int32))) σ) ∧ (¬ a1 = (167 : Int32) →
          ((a1 < (194 : Int32) →
            ((0 : Int32) = 0 ∨ (0 : Int32) = 1) ∧ Q (some (.int (0 : Int32))) σ) ∧ (¬ a1 < (194 : Int32) →
            ((1 : Int32) = 0 ∨ (1 : Int32) = 1) ∧ Q (some (.int (1 : Int32))) σ))))) ∧ (¬ a1 < (121 : Int32) →
        ((a1 ≤ (138 : Int32) →
          ((1 : Int32) = 0 ∨ (1 : Int32) = 1) ∧ Q (some (.int (1 : Int32))) σ) ∧ (¬ a1 ≤ (138 : Int32) →
          ((a1 = (167 : Int32) →
            ((1 : Int32) = 0 ∨ (1 : Int32) = 1) ∧ Q (some (.int (1 : Int32))) σ) ∧ (¬ a1 = (167 : Int32) →
            ((a1 < (194 : Int32) →
              ((0 : Int32) = 0 ∨ (0 : Int32) = 1) ∧ Q (some (.int (0 : Int32))) σ) ∧ (¬ a1 < (194 : Int32) →
              ((1 : Int32) = 0 ∨ (1 : Int32) = 1) ∧ Q (some (.int (1 : Int32))) σ))))))))))))
def LIX7_takesLong  : Nat → Nat → zLo → zS → Prop := fun t n l τ => False
def JIX7_takesLong  (Q : Option Value → zS → Prop) (QX : zS → Prop) : Nat → Option Nat → zLo → zS → Prop := fun t n l τ => False
set_option maxRecDepth 50000 in
theorem pX7_takesLong_0  (Q : Option Value → zS → Prop) (QX : zS → Prop)  (a1 : Int32) (σ : zS) (h : PX7_takesLong_0  Q QX a1 σ) : zwp JX7_takesLong (zB hX7_takesLong (zKt jnX7_takesLong (JIX7_takesLong  Q QX) (LIX7_takesLong ) none 0)) Q QX kX7_takesLong 0 (lv_args 0 [.int a1]) [] σ := h
set_option maxRecDepth 50000 in
theorem rX7_takesLong {Q : Option Value → zS → Prop} {QX : zS → Prop} {a1 : Int32} {σ : zS}   (h0 : PX7_takesLong_0  Q QX a1 σ) : zCT zZC zmX7_takesLong [.int a1] σ Q QX := by
  refine zCT_of zZC_ok pnX7 (Nat.le_of_ble_eq_true rfl) kX7_takesLong ksX7_takesLong JX7_takesLong 1 (fun t ht => ?_) hX7_takesLong jnX7_takesLong (JIX7_takesLong  Q QX) (LIX7_takesLong ) (fun n t ln σ' ht hj hI => ?_) (fun m t ln σ' ht hj hI => ?_) (pX7_takesLong_0  Q QX a1 σ h0)
  · cases ht
  · cases ht
  · cases ht
def JX7_takesTwo : Nat → Bool := fun t => Nat.beq t 12 || Nat.beq t 24 || Nat.beq t 36
def jnX7_takesTwo : Nat → Bool := fun t => Nat.beq t 12 || Nat.beq t 24 || Nat.beq t 36
def hX7_takesTwo : Nat → List Nat := fun t => bif Nat.beq t 12 then [0] else bif Nat.beq t 24 then [0] else bif Nat.beq t 36 then [0] else []
def PX7_takesTwo_36  (Q : Option Value → zS → Prop) (QX : zS → Prop) (x0 : Int32) (σ : zS) : Prop :=
  ((x0 < (124 : Int32) →
    ((0 : Int32) = 0 ∨ (0 : Int32) = 1) ∧ Q (some (.int (0 : Int32))) σ) ∧ (¬ x0 < (124 : Int32) →
    (((138 : Int32) < x0 →
      ((0 : Int32) = 0 ∨ (0 : Int32) = 1) ∧ Q (some (.int (0 : Int32))) σ) ∧ (¬ (138 : Int32) < x0 →
      ((1 : Int32) = 0 ∨ (1 : Int32) = 1) ∧ Q (some (.int (1 : Int32))) σ))))
def PX7_takesTwo_24  (Q : Option Value → zS → Prop) (QX : zS → Prop) (x0 : Int32) (σ : zS) : Prop :=
  ((x0 < (106 : Int32) →
    PX7_takesTwo_36 Q QX x0 σ) ∧ (¬ x0 < (106 : Int32) →
    ((x0 ≤ (120 : Int32) →
      ((1 : Int32) = 0 ∨ (1 : Int32) = 1) ∧ Q (some (.int (1 : Int32))) σ) ∧ (¬ x0 ≤ (120 : Int32) →
      PX7_takesTwo_36 Q QX x0 σ))))
def PX7_takesTwo_12  (Q : Option Value → zS → Prop) (QX : zS → Prop) (x0 : Int32) (σ : zS) : Prop :=
  ((x0 < (81 : Int32) →
    PX7_takesTwo_24 Q QX x0 σ) ∧ (¬ x0 < (81 : Int32) →
    ((x0 ≤ (90 : Int32) →
      ((1 : Int32) = 0 ∨ (1 : Int32) = 1) ∧ Q (some (.int (1 : Int32))) σ) ∧ (¬ x0 ≤ (90 : Int32) →
      PX7_takesTwo_24 Q QX x0 σ))))
def PX7_takesTwo_0  (Q : Option Value → zS → Prop) (QX : zS → Prop) (a1 : Int32) (σ : zS) : Prop :=
  ((a1 < (70 : Int32) →
    PX7_takesTwo_12 Q QX a1 σ) ∧ (¬ a1 < (70 : Int32) →
    ((a1 ≤ (79 : Int32) →
      ((1 : Int32) = 0 ∨ (1 : Int32) = 1) ∧ Q (some (.int (1 : Int32))) σ) ∧ (¬ a1 ≤ (79 : Int32) →
      PX7_takesTwo_12 Q QX a1 σ))))
def LIX7_takesTwo  : Nat → Nat → zLo → zS → Prop := fun t n l τ => False
def JIX7_takesTwo  (Q : Option Value → zS → Prop) (QX : zS → Prop) : Nat → Option Nat → zLo → zS → Prop := fun t n l τ => bif Nat.beq t 12 then zdI 0 (fun x0 => zdN (PX7_takesTwo_12  Q QX x0 τ)) l else bif Nat.beq t 24 then zdI 0 (fun x0 => zdN (PX7_takesTwo_24  Q QX x0 τ)) l else bif Nat.beq t 36 then zdI 0 (fun x0 => zdN (PX7_takesTwo_36  Q QX x0 τ)) l else False
set_option maxRecDepth 50000 in
theorem pX7_takesTwo_0  (Q : Option Value → zS → Prop) (QX : zS → Prop)  (a1 : Int32) (σ : zS) (h : PX7_takesTwo_0  Q QX a1 σ) : zwp JX7_takesTwo (zB hX7_takesTwo (zKt jnX7_takesTwo (JIX7_takesTwo  Q QX) (LIX7_takesTwo ) none 0)) Q QX kX7_takesTwo 0 (lv_args 0 [.int a1]) [] σ := h
set_option maxRecDepth 50000 in
theorem pX7_takesTwo_12  (Q : Option Value → zS → Prop) (QX : zS → Prop) (n : Option Nat) (x0 : Int32) (σ : zS) (h : PX7_takesTwo_12  Q QX x0 σ) : zwp JX7_takesTwo (zB hX7_takesTwo (zKt jnX7_takesTwo (JIX7_takesTwo  Q QX) (LIX7_takesTwo ) n 12)) Q QX kX7_takesTwo 12 [(0, .int x0)] [] σ := h
set_option maxRecDepth 50000 in
theorem pX7_takesTwo_24  (Q : Option Value → zS → Prop) (QX : zS → Prop) (n : Option Nat) (x0 : Int32) (σ : zS) (h : PX7_takesTwo_24  Q QX x0 σ) : zwp JX7_takesTwo (zB hX7_takesTwo (zKt jnX7_takesTwo (JIX7_takesTwo  Q QX) (LIX7_takesTwo ) n 24)) Q QX kX7_takesTwo 24 [(0, .int x0)] [] σ := h
set_option maxRecDepth 50000 in
theorem pX7_takesTwo_36  (Q : Option Value → zS → Prop) (QX : zS → Prop) (n : Option Nat) (x0 : Int32) (σ : zS) (h : PX7_takesTwo_36  Q QX x0 σ) : zwp JX7_takesTwo (zB hX7_takesTwo (zKt jnX7_takesTwo (JIX7_takesTwo  Q QX) (LIX7_takesTwo ) n 36)) Q QX kX7_takesTwo 36 [(0, .int x0)] [] σ := h
set_option maxRecDepth 50000 in
theorem rX7_takesTwo {Q : Option Value → zS → Prop} {QX : zS → Prop} {a1 : Int32} {σ : zS}   (h0 : PX7_takesTwo_0  Q QX a1 σ) : zCT zZC zmX7_takesTwo [.int a1] σ Q QX := by
  refine zCT_of zZC_ok pnX7 (Nat.le_of_ble_eq_true rfl) kX7_takesTwo ksX7_takesTwo JX7_takesTwo 37 (fun t ht => ?_) hX7_takesTwo jnX7_takesTwo (JIX7_takesTwo  Q QX) (LIX7_takesTwo ) (fun n t ln σ' ht hj hI => ?_) (fun m t ln σ' ht hj hI => ?_) (pX7_takesTwo_0  Q QX a1 σ h0)
  · refine zor ht (fun ht => ?_) (fun ht => ?_)
    · skip
      refine zor ht (fun ht => ?_) (fun ht => ?_)
      · skip
        have et := Nat.eq_of_beq_eq_true ht; subst et
        exact Nat.le_of_ble_eq_true rfl
      · skip
        have et := Nat.eq_of_beq_eq_true ht; subst et
        exact Nat.le_of_ble_eq_true rfl
    · skip
      have et := Nat.eq_of_beq_eq_true ht; subst et
      exact Nat.le_of_ble_eq_true rfl
  · refine zor ht (fun ht => ?_) (fun ht => ?_)
    · skip
      refine zor ht (fun ht => ?_) (fun ht => ?_)
      · skip
        have et := Nat.eq_of_beq_eq_true ht; subst et
        have hI : JIX7_takesTwo  Q QX 12 n ln σ' := hI
        obtain ⟨x0, l0, e0, hI⟩ := zdI_e (i := 0) hI; subst e0
        obtain ⟨e, hI⟩ := zdN_e hI; subst e
        exact pX7_takesTwo_12  Q QX n x0 σ' hI
      · skip
        have et := Nat.eq_of_beq_eq_true ht; subst et
        have hI : JIX7_takesTwo  Q QX 24 n ln σ' := hI
        obtain ⟨x0, l0, e0, hI⟩ := zdI_e (i := 0) hI; subst e0
        obtain ⟨e, hI⟩ := zdN_e hI; subst e
        exact pX7_takesTwo_24  Q QX n x0 σ' hI
    · skip
      have et := Nat.eq_of_beq_eq_true ht; subst et
      have hI : JIX7_takesTwo  Q QX 36 n ln σ' := hI
      obtain ⟨x0, l0, e0, hI⟩ := zdI_e (i := 0) hI; subst e0
      obtain ⟨e, hI⟩ := zdN_e hI; subst e
      exact pX7_takesTwo_36  Q QX n x0 σ' hI
  · refine zor ht (fun ht => ?_) (fun ht => ?_)
    · skip
      refine zor ht (fun ht => ?_) (fun ht => ?_)
      · skip
        have et := Nat.eq_of_beq_eq_true ht; subst et
        cases hj
      · skip
        have et := Nat.eq_of_beq_eq_true ht; subst et
        cases hj
    · skip
      have et := Nat.eq_of_beq_eq_true ht; subst et
      cases hj
def JX8_end : Nat → Bool := fun t => false && Nat.beq t 0
def jnX8_end : Nat → Bool := fun t => false && Nat.beq t 0
def hX8_end : Nat → List Nat := fun t => []
def PX8_end_0  (Q : Option Value → zS → Prop) (QX : zS → Prop) (a1 : Int32) (σ : zS) : Prop :=
  ((a1 < 0 →
    ((0 : Int32) = 0 ∨ (0 : Int32) = 1) ∧ Q (some (.int (0 : Int32))) σ) ∧ (¬ a1 < 0 →
    ((a1 ≤ (σ.1 1 1) →
      ∀ s1 : zS, s1 = zsI σ 1 1 a1 →
      ((1 : Int32) = 0 ∨ (1 : Int32) = 1) ∧ Q (some (.int (1 : Int32))) s1) ∧ (¬ a1 ≤ (σ.1 1 1) →
      ((0 : Int32) = 0 ∨ (0 : Int32) = 1) ∧ Q (some (.int (0 : Int32))) σ))))
def LIX8_end  : Nat → Nat → zLo → zS → Prop := fun t n l τ => False
def JIX8_end  (Q : Option Value → zS → Prop) (QX : zS → Prop) : Nat → Option Nat → zLo → zS → Prop := fun t n l τ => False
set_option maxRecDepth 50000 in
theorem pX8_end_0  (Q : Option Value → zS → Prop) (QX : zS → Prop)  (a1 : Int32) (σ : zS) (h : PX8_end_0  Q QX a1 σ) : zwp JX8_end (zB hX8_end (zKt jnX8_end (JIX8_end  Q QX) (LIX8_end ) none 0)) Q QX kX8_end 0 (lv_args 0 [.ref 0, .int a1]) [] σ := h
set_option maxRecDepth 50000 in
theorem rX8_end {Q : Option Value → zS → Prop} {QX : zS → Prop} {a1 : Int32} {σ : zS}   (h0 : PX8_end_0  Q QX a1 σ) : zCT zZC zmX8_end [.ref 0, .int a1] σ Q QX := by
  refine zCT_of zZC_ok pnX8 (Nat.le_of_ble_eq_true rfl) kX8_end ksX8_end JX8_end 1 (fun t ht => ?_) hX8_end jnX8_end (JIX8_end  Q QX) (LIX8_end ) (fun n t ln σ' ht hj hI => ?_) (fun m t ln σ' ht hj hI => ?_) (pX8_end_0  Q QX a1 σ h0)
  · cases ht
  · cases ht
  · cases ht
def JX8_place : Nat → Bool := fun t => false && Nat.beq t 0
def jnX8_place : Nat → Bool := fun t => false && Nat.beq t 0
def hX8_place : Nat → List Nat := fun t => []
def PX8_place_0  (Q : Option Value → zS → Prop) (QX : zS → Prop)  (σ : zS) : Prop :=
  Q (some (.int (σ.1 0 6))) σ
def LIX8_place  : Nat → Nat → zLo → zS → Prop := fun t n l τ => False
def JIX8_place  (Q : Option Value → zS → Prop) (QX : zS → Prop) : Nat → Option Nat → zLo → zS → Prop := fun t n l τ => False
set_option maxRecDepth 50000 in
theorem pX8_place_0  (Q : Option Value → zS → Prop) (QX : zS → Prop)   (σ : zS) (h : PX8_place_0  Q QX  σ) : zwp JX8_place (zB hX8_place (zKt jnX8_place (JIX8_place  Q QX) (LIX8_place ) none 0)) Q QX kX8_place 0 (lv_args 0 [.ref 0]) [] σ := h
set_option maxRecDepth 50000 in
theorem rX8_place {Q : Option Value → zS → Prop} {QX : zS → Prop}  {σ : zS}   (h0 : PX8_place_0  Q QX  σ) : zCT zZC zmX8_place [.ref 0] σ Q QX := by
  refine zCT_of zZC_ok pnX8 (Nat.le_of_ble_eq_true rfl) kX8_place ksX8_place JX8_place 1 (fun t ht => ?_) hX8_place jnX8_place (JIX8_place  Q QX) (LIX8_place ) (fun n t ln σ' ht hj hI => ?_) (fun m t ln σ' ht hj hI => ?_) (pX8_place_0  Q QX  σ h0)
  · cases ht
  · cases ht
  · cases ht
def JX0_codeAt : Nat → Bool := fun t => false && Nat.beq t 0
def jnX0_codeAt : Nat → Bool := fun t => false && Nat.beq t 0
def hX0_codeAt : Nat → List Nat := fun t => []
def PX0_codeAt_0  (Q : Option Value → zS → Prop) (QX : zS → Prop) (a1 : Int32) (a2 : Int32) (σ : zS) : Prop :=
  zCT zZC zmX0_has [.ref 9, .int a1] σ (zQi (fun r2 s1 =>
    ((r2 = 0 →
      Q (some (.int (-1 : Int32))) s1) ∧ (¬ r2 = 0 →
      ((a2 < 0 →
        Q (some (.int (-1 : Int32))) s1) ∧ (¬ a2 < 0 →
        vp_in a1 64 ∧
        ((a2 < (s1.1 35 a1.toNatClampNeg) →
          vp_in a1 64 ∧
          ((((s1.1 34 a1.toNatClampNeg) + a2) < 0 →
            Q (some (.int (-1 : Int32))) s1) ∧ (¬ ((s1.1 34 a1.toNatClampNeg) + a2) < 0 →
            (((nI 16000) ≤ ((s1.1 34 a1.toNatClampNeg) + a2) →
              Q (some (.int (-1 : Int32))) s1) ∧ (¬ (nI 16000) ≤ ((s1.1 34 a1.toNatClampNeg) + a2) →
              vp_in ((s1.1 34 a1.toNatClampNeg) + a2) 16000 ∧
              Q (some (.int (s1.1 37 ((s1.1 34 a1.toNatClampNeg) + a2).toNatClampNeg))) s1))))) ∧ (¬ a2 < (s1.1 35 a1.toNatClampNeg) →
          Q (some (.int (-1 : Int32))) s1)))))))) QX
def LIX0_codeAt  : Nat → Nat → zLo → zS → Prop := fun t n l τ => False
def JIX0_codeAt  (Q : Option Value → zS → Prop) (QX : zS → Prop) : Nat → Option Nat → zLo → zS → Prop := fun t n l τ => False
set_option maxRecDepth 50000 in
theorem pX0_codeAt_0  (Q : Option Value → zS → Prop) (QX : zS → Prop)  (a1 : Int32) (a2 : Int32) (σ : zS) (h : PX0_codeAt_0  Q QX a1 a2 σ) : zwp JX0_codeAt (zB hX0_codeAt (zKt jnX0_codeAt (JIX0_codeAt  Q QX) (LIX0_codeAt ) none 0)) Q QX kX0_codeAt 0 (lv_args 0 [.ref 9, .int a1, .int a2]) [] σ := h
set_option maxRecDepth 50000 in
theorem rX0_codeAt {Q : Option Value → zS → Prop} {QX : zS → Prop} {a1 : Int32} {a2 : Int32} {σ : zS}   (h0 : PX0_codeAt_0  Q QX a1 a2 σ) : zCT zZC zmX0_codeAt [.ref 9, .int a1, .int a2] σ Q QX := by
  refine zCT_of zZC_ok pnX0 (Nat.le_of_ble_eq_true rfl) kX0_codeAt ksX0_codeAt JX0_codeAt 1 (fun t ht => ?_) hX0_codeAt jnX0_codeAt (JIX0_codeAt  Q QX) (LIX0_codeAt ) (fun n t ln σ' ht hj hI => ?_) (fun m t ln σ' ht hj hI => ?_) (pX0_codeAt_0  Q QX a1 a2 σ h0)
  · cases ht
  · cases ht
  · cases ht
def JX1_lookWhereItStands : Nat → Bool := fun t => false && Nat.beq t 0
def jnX1_lookWhereItStands : Nat → Bool := fun t => false && Nat.beq t 0
def hX1_lookWhereItStands : Nat → List Nat := fun t => []
def PX1_lookWhereItStands_0  (Q : Option Value → zS → Prop) (QX : zS → Prop)  (σ : zS) : Prop :=
  ((zin (σ.1 6 3) [2, 3, 4] →
    (((σ.1 5 5) < (60 : Int32) →
      Q none σ) ∧ (¬ (σ.1 5 5) < (60 : Int32) →
      zCT zZC zmX4_fail [.ref 1, .int (4 : Int32), .int (σ.1 6 2)] σ (zQv (fun s1 =>
        Q none s1)) QX))) ∧ (¬ zin (σ.1 6 3) [2, 3, 4] →
  (((σ.1 6 3) = 5 →
    zCT zZC zmX3_openedBy [.ref 5] σ (zQi (fun r3 s2 =>
      ((r3 = (4 : Int32) →
        Q none s2) ∧ (¬ r3 = (4 : Int32) →
        zCT zZC zmX4_fail [.ref 1, .int (1 : Int32), .int (s2.1 6 2)] s2 (zQv (fun s4 =>
          Q none s4)) QX)))) QX) ∧ (¬ (σ.1 6 3) = 5 →
  ((zin (σ.1 6 3) [264, 265] →
    (((0 : Int64) ≤ (σ.2 2 14) →
      Q none σ) ∧ (¬ (0 : Int64) ≤ (σ.2 2 14) →
      zCT zZC zmX4_fail [.ref 1, .int (1 : Int32), .int (σ.1 6 2)] σ (zQv (fun s5 =>
        Q none s5)) QX))) ∧ (¬ zin (σ.1 6 3) [264, 265] →
    Q none σ))))))
def LIX1_lookWhereItStands  : Nat → Nat → zLo → zS → Prop := fun t n l τ => False
def JIX1_lookWhereItStands  (Q : Option Value → zS → Prop) (QX : zS → Prop) : Nat → Option Nat → zLo → zS → Prop := fun t n l τ => False
set_option maxRecDepth 50000 in
theorem pX1_lookWhereItStands_0  (Q : Option Value → zS → Prop) (QX : zS → Prop)   (σ : zS) (h : PX1_lookWhereItStands_0  Q QX  σ) : zwp JX1_lookWhereItStands (zB hX1_lookWhereItStands (zKt jnX1_lookWhereItStands (JIX1_lookWhereItStands  Q QX) (LIX1_lookWhereItStands ) none 0)) Q QX kX1_lookWhereItStands 0 (lv_args 0 [.ref 4]) [] σ := h
set_option maxRecDepth 50000 in
theorem rX1_lookWhereItStands {Q : Option Value → zS → Prop} {QX : zS → Prop}  {σ : zS}   (h0 : PX1_lookWhereItStands_0  Q QX  σ) : zCT zZC zmX1_lookWhereItStands [.ref 4] σ Q QX := by
  refine zCT_of zZC_ok pnX1 (Nat.le_of_ble_eq_true rfl) kX1_lookWhereItStands ksX1_lookWhereItStands JX1_lookWhereItStands 1 (fun t ht => ?_) hX1_lookWhereItStands jnX1_lookWhereItStands (JIX1_lookWhereItStands  Q QX) (LIX1_lookWhereItStands ) (fun n t ln σ' ht hj hI => ?_) (fun m t ln σ' ht hj hI => ?_) (pX1_lookWhereItStands_0  Q QX  σ h0)
  · cases ht
  · cases ht
  · cases ht
def JX2_isUnchangedImport : Nat → Bool := fun t => false && Nat.beq t 0
def jnX2_isUnchangedImport : Nat → Bool := fun t => false && Nat.beq t 0
def hX2_isUnchangedImport : Nat → List Nat := fun t => []
def PX2_isUnchangedImport_0  (Q : Option Value → zS → Prop) (QX : zS → Prop) (a1 : Int64) (σ : zS) : Prop :=
  ((((σ.1 2 13).toInt64) ≤ a1 →
    ((0 : Int32) = 0 ∨ (0 : Int32) = 1) ∧ Q (some (.int (0 : Int32))) σ) ∧ (¬ ((σ.1 2 13).toInt64) ≤ a1 →
    ((((σ.1 2 12).toInt64) ≤ a1 →
      ((0 : Int32) = 0 ∨ (0 : Int32) = 1) ∧ Q (some (.int (0 : Int32))) σ) ∧ (¬ ((σ.1 2 12).toInt64) ≤ a1 →
      zCT zZC zmX2_changesGlobal [.ref 2, .int (a1.toInt32)] σ (zQi (fun r2 s1 =>
        ((r2 = 0 →
          ((1 : Int32) = 0 ∨ (1 : Int32) = 1) ∧ Q (some (.int (1 : Int32))) s1) ∧ (¬ r2 = 0 →
          ((0 : Int32) = 0 ∨ (0 : Int32) = 1) ∧ Q (some (.int (0 : Int32))) s1)))) QX))))
def LIX2_isUnchangedImport  : Nat → Nat → zLo → zS → Prop := fun t n l τ => False
def JIX2_isUnchangedImport  (Q : Option Value → zS → Prop) (QX : zS → Prop) : Nat → Option Nat → zLo → zS → Prop := fun t n l τ => False
set_option maxRecDepth 50000 in
theorem pX2_isUnchangedImport_0  (Q : Option Value → zS → Prop) (QX : zS → Prop)  (a1 : Int64) (σ : zS) (h : PX2_isUnchangedImport_0  Q QX a1 σ) : zwp JX2_isUnchangedImport (zB hX2_isUnchangedImport (zKt jnX2_isUnchangedImport (JIX2_isUnchangedImport  Q QX) (LIX2_isUnchangedImport ) none 0)) Q QX kX2_isUnchangedImport 0 (lv_args 0 [.ref 2, .long a1]) [] σ := h
set_option maxRecDepth 50000 in
theorem rX2_isUnchangedImport {Q : Option Value → zS → Prop} {QX : zS → Prop} {a1 : Int64} {σ : zS}   (h0 : PX2_isUnchangedImport_0  Q QX a1 σ) : zCT zZC zmX2_isUnchangedImport [.ref 2, .long a1] σ Q QX := by
  refine zCT_of zZC_ok pnX2 (Nat.le_of_ble_eq_true rfl) kX2_isUnchangedImport ksX2_isUnchangedImport JX2_isUnchangedImport 1 (fun t ht => ?_) hX2_isUnchangedImport jnX2_isUnchangedImport (JIX2_isUnchangedImport  Q QX) (LIX2_isUnchangedImport ) (fun n t ln σ' ht hj hI => ?_) (fun m t ln σ' ht hj hI => ?_) (pX2_isUnchangedImport_0  Q QX a1 σ h0)
  · cases ht
  · cases ht
  · cases ht
def JX3_begin : Nat → Bool := fun t => false && Nat.beq t 0
def jnX3_begin : Nat → Bool := fun t => false && Nat.beq t 0
def hX3_begin : Nat → List Nat := fun t => []
def PX3_begin_0  (Q : Option Value → zS → Prop) (QX : zS → Prop) (a1 : Int32) (σ : zS) : Prop :=
  ∀ s1 : zS, s1 = zsI σ 5 5 (-1 : Int32) →
  ∀ s2 : zS, s2 = zsI s1 5 6 (0 : Int32) →
  zCT zZC zmX3_open [.ref 5, .int (2 : Int32), .int a1] s2 (zQv (fun s3 =>
    Q none s3)) QX
def LIX3_begin  : Nat → Nat → zLo → zS → Prop := fun t n l τ => False
def JIX3_begin  (Q : Option Value → zS → Prop) (QX : zS → Prop) : Nat → Option Nat → zLo → zS → Prop := fun t n l τ => False
set_option maxRecDepth 50000 in
theorem pX3_begin_0  (Q : Option Value → zS → Prop) (QX : zS → Prop)  (a1 : Int32) (σ : zS) (h : PX3_begin_0  Q QX a1 σ) : zwp JX3_begin (zB hX3_begin (zKt jnX3_begin (JIX3_begin  Q QX) (LIX3_begin ) none 0)) Q QX kX3_begin 0 (lv_args 0 [.ref 5, .int a1]) [] σ := h
set_option maxRecDepth 50000 in
theorem rX3_begin {Q : Option Value → zS → Prop} {QX : zS → Prop} {a1 : Int32} {σ : zS}   (h0 : PX3_begin_0  Q QX a1 σ) : zCT zZC zmX3_begin [.ref 5, .int a1] σ Q QX := by
  refine zCT_of zZC_ok pnX3 (Nat.le_of_ble_eq_true rfl) kX3_begin ksX3_begin JX3_begin 1 (fun t ht => ?_) hX3_begin jnX3_begin (JIX3_begin  Q QX) (LIX3_begin ) (fun n t ln σ' ht hj hI => ?_) (fun m t ln σ' ht hj hI => ?_) (pX3_begin_0  Q QX a1 σ h0)
  · cases ht
  · cases ht
  · cases ht
def JX3_close : Nat → Bool := fun t => false && Nat.beq t 0
def jnX3_close : Nat → Bool := fun t => false && Nat.beq t 0
def hX3_close : Nat → List Nat := fun t => []
def PX3_close_0  (Q : Option Value → zS → Prop) (QX : zS → Prop)  (σ : zS) : Prop :=
  (((σ.1 5 5) < 0 →
    Q none σ) ∧ (¬ (σ.1 5 5) < 0 →
    (((nI 61) ≤ (σ.1 5 5) →
      Q none σ) ∧ (¬ (nI 61) ≤ (σ.1 5 5) →
      vp_in (σ.1 5 5) 61 ∧
      ∀ s1 : zS, s1 = zsI σ 5 6 (σ.1 23 (σ.1 5 5).toNatClampNeg) →
      vp_in (s1.1 5 5) 61 ∧
      zCT zZC zmX3_leave [.ref 5, .int (s1.1 22 (s1.1 5 5).toNatClampNeg)] s1 (zQv (fun s2 =>
        ∀ s3 : zS, s3 = zsI s2 5 5 ((s2.1 5 5) - (1 : Int32)) →
        Q none s3)) QX))))
def LIX3_close  : Nat → Nat → zLo → zS → Prop := fun t n l τ => False
def JIX3_close  (Q : Option Value → zS → Prop) (QX : zS → Prop) : Nat → Option Nat → zLo → zS → Prop := fun t n l τ => False
set_option maxRecDepth 50000 in
theorem pX3_close_0  (Q : Option Value → zS → Prop) (QX : zS → Prop)   (σ : zS) (h : PX3_close_0  Q QX  σ) : zwp JX3_close (zB hX3_close (zKt jnX3_close (JIX3_close  Q QX) (LIX3_close ) none 0)) Q QX kX3_close 0 (lv_args 0 [.ref 5]) [] σ := h
set_option maxRecDepth 50000 in
theorem rX3_close {Q : Option Value → zS → Prop} {QX : zS → Prop}  {σ : zS}   (h0 : PX3_close_0  Q QX  σ) : zCT zZC zmX3_close [.ref 5] σ Q QX := by
  refine zCT_of zZC_ok pnX3 (Nat.le_of_ble_eq_true rfl) kX3_close ksX3_close JX3_close 1 (fun t ht => ?_) hX3_close jnX3_close (JIX3_close  Q QX) (LIX3_close ) (fun n t ln σ' ht hj hI => ?_) (fun m t ln σ' ht hj hI => ?_) (pX3_close_0  Q QX  σ h0)
  · cases ht
  · cases ht
  · cases ht
def JX4_blockType : Nat → Bool := fun t => false && Nat.beq t 0
def jnX4_blockType : Nat → Bool := fun t => false && Nat.beq t 0
def hX4_blockType : Nat → List Nat := fun t => []
def PX4_blockType_0  (Q : Option Value → zS → Prop) (QX : zS → Prop)  (σ : zS) : Prop :=
  zCT zZC zmX4_octet [.ref 1] σ (zQi (fun r2 s1 =>
    ((r2 = (64 : Int32) →
      Q (some (.int r2)) s1) ∧ (¬ r2 = (64 : Int32) →
      ((r2 = (127 : Int32) →
        Q (some (.int r2)) s1) ∧ (¬ r2 = (127 : Int32) →
        ((r2 = (126 : Int32) →
          Q (some (.int r2)) s1) ∧ (¬ r2 = (126 : Int32) →
          zCT zZC zmX4_fail [.ref 1, .int (1 : Int32), .int (σ.1 1 2)] s1 (zQv (fun s3 =>
            Q (some (.int r2)) s3)) QX)))))))) QX
def LIX4_blockType  : Nat → Nat → zLo → zS → Prop := fun t n l τ => False
def JIX4_blockType  (Q : Option Value → zS → Prop) (QX : zS → Prop) : Nat → Option Nat → zLo → zS → Prop := fun t n l τ => False
set_option maxRecDepth 50000 in
theorem pX4_blockType_0  (Q : Option Value → zS → Prop) (QX : zS → Prop)   (σ : zS) (h : PX4_blockType_0  Q QX  σ) : zwp JX4_blockType (zB hX4_blockType (zKt jnX4_blockType (JIX4_blockType  Q QX) (LIX4_blockType ) none 0)) Q QX kX4_blockType 0 (lv_args 0 [.ref 1]) [] σ := h
set_option maxRecDepth 50000 in
theorem rX4_blockType {Q : Option Value → zS → Prop} {QX : zS → Prop}  {σ : zS}   (h0 : PX4_blockType_0  Q QX  σ) : zCT zZC zmX4_blockType [.ref 1] σ Q QX := by
  refine zCT_of zZC_ok pnX4 (Nat.le_of_ble_eq_true rfl) kX4_blockType ksX4_blockType JX4_blockType 1 (fun t ht => ?_) hX4_blockType jnX4_blockType (JIX4_blockType  Q QX) (LIX4_blockType ) (fun n t ln σ' ht hj hI => ?_) (fun m t ln σ' ht hj hI => ?_) (pX4_blockType_0  Q QX  σ h0)
  · cases ht
  · cases ht
  · cases ht
def JX4_leave : Nat → Bool := fun t => false && Nat.beq t 0
def jnX4_leave : Nat → Bool := fun t => false && Nat.beq t 0
def hX4_leave : Nat → List Nat := fun t => []
def PX4_leave_0  (Q : Option Value → zS → Prop) (QX : zS → Prop) (a1 : Int32) (σ : zS) : Prop :=
  (((σ.1 1 3) ≤ (σ.1 1 2) →
    ∀ s1 : zS, s1 = zsI σ 1 3 a1 →
    Q none s1) ∧ (¬ (σ.1 1 3) ≤ (σ.1 1 2) →
    zCT zZC zmX4_fail [.ref 1, .int (1 : Int32), .int (σ.1 1 2)] σ (zQv (fun s2 =>
      ∀ s3 : zS, s3 = zsI s2 1 3 a1 →
      Q none s3)) QX))
def LIX4_leave  : Nat → Nat → zLo → zS → Prop := fun t n l τ => False
def JIX4_leave  (Q : Option Value → zS → Prop) (QX : zS → Prop) : Nat → Option Nat → zLo → zS → Prop := fun t n l τ => False
set_option maxRecDepth 50000 in
theorem pX4_leave_0  (Q : Option Value → zS → Prop) (QX : zS → Prop)  (a1 : Int32) (σ : zS) (h : PX4_leave_0  Q QX a1 σ) : zwp JX4_leave (zB hX4_leave (zKt jnX4_leave (JIX4_leave  Q QX) (LIX4_leave ) none 0)) Q QX kX4_leave 0 (lv_args 0 [.ref 1, .int a1]) [] σ := h
set_option maxRecDepth 50000 in
theorem rX4_leave {Q : Option Value → zS → Prop} {QX : zS → Prop} {a1 : Int32} {σ : zS}   (h0 : PX4_leave_0  Q QX a1 σ) : zCT zZC zmX4_leave [.ref 1, .int a1] σ Q QX := by
  refine zCT_of zZC_ok pnX4 (Nat.le_of_ble_eq_true rfl) kX4_leave ksX4_leave JX4_leave 1 (fun t ht => ?_) hX4_leave jnX4_leave (JIX4_leave  Q QX) (LIX4_leave ) (fun n t ln σ' ht hj hI => ?_) (fun m t ln σ' ht hj hI => ?_) (pX4_leave_0  Q QX a1 σ h0)
  · cases ht
  · cases ht
  · cases ht
def JX4_number : Nat → Bool := fun t => Nat.beq t 10
def jnX4_number : Nat → Bool := fun t => false && Nat.beq t 0
def hX4_number : Nat → List Nat := fun t => bif Nat.beq t 10 then [0, 1, 2, 4] else []
def PX4_number_10 (K10 : Int32 → Int64 → Int32 → zS → Prop) (Q : Option Value → zS → Prop) (QX : zS → Prop) (x1 : Int32) (x2 : Int64) (x4 : Int32) (σ : zS) : Prop :=
  (((5 : Int32) ≤ x4 →
    (((σ.1 1 4) = 0 →
      Q (some (.long x2)) σ) ∧ (¬ (σ.1 1 4) = 0 →
      Q (some (.long (0 : Int64))) σ))) ∧ (¬ (5 : Int32) ≤ x4 →
    (((σ.1 1 4) = 0 →
      zCT zZC zmX4_octet [.ref 1] σ (zQi (fun r2 s1 =>
        ((x4 = (4 : Int32) →
          ((r2 ≤ (15 : Int32) →
            (((128 : Int32) ≤ r2 →
              K10 x1 (x2 ||| (((r2 &&& (127 : Int32)).toInt64) <<< ((((7 : Int32) * x4)).toInt64 &&& 63))) (x4 + 1) s1) ∧ (¬ (128 : Int32) ≤ r2 →
              (((s1.1 1 4) = 0 →
                Q (some (.long (x2 ||| (((r2 &&& (127 : Int32)).toInt64) <<< ((((7 : Int32) * x4)).toInt64 &&& 63))))) s1) ∧ (¬ (s1.1 1 4) = 0 →
                Q (some (.long (0 : Int64))) s1))))) ∧ (¬ r2 ≤ (15 : Int32) →
            zCT zZC zmX4_fail [.ref 1, .int (1 : Int32), .int x1] s1 (zQv (fun s3 =>
              (((128 : Int32) ≤ r2 →
                K10 x1 (x2 ||| (((r2 &&& (127 : Int32)).toInt64) <<< ((((7 : Int32) * x4)).toInt64 &&& 63))) (x4 + 1) s3) ∧ (¬ (128 : Int32) ≤ r2 →
                (((s3.1 1 4) = 0 →
                  Q (some (.long (x2 ||| (((r2 &&& (127 : Int32)).toInt64) <<< ((((7 : Int32) * x4)).toInt64 &&& 63))))) s3) ∧ (¬ (s3.1 1 4) = 0 →
                  Q (some (.long (0 : Int64))) s3)))))) QX))) ∧ (¬ x4 = (4 : Int32) →
          (((128 : Int32) ≤ r2 →
            K10 x1 (x2 ||| (((r2 &&& (127 : Int32)).toInt64) <<< ((((7 : Int32) * x4)).toInt64 &&& 63))) (x4 + 1) s1) ∧ (¬ (128 : Int32) ≤ r2 →
            (((s1.1 1 4) = 0 →
              Q (some (.long (x2 ||| (((r2 &&& (127 : Int32)).toInt64) <<< ((((7 : Int32) * x4)).toInt64 &&& 63))))) s1) ∧ (¬ (s1.1 1 4) = 0 →
              Q (some (.long (0 : Int64))) s1)))))))) QX) ∧ (¬ (σ.1 1 4) = 0 →
      (((σ.1 1 4) = 0 →
        Q (some (.long x2)) σ) ∧ (¬ (σ.1 1 4) = 0 →
        Q (some (.long (0 : Int64))) σ))))))
def PX4_number_0 (K10 : Int32 → Int64 → Int32 → zS → Prop) (Q : Option Value → zS → Prop) (QX : zS → Prop)  (σ : zS) : Prop :=
  K10 (σ.1 1 2) (0 : Int64) (0 : Int32) σ
def LIX4_number (I10 : Nat → Int32 → Int64 → Int32 → zS → Prop) : Nat → Nat → zLo → zS → Prop := fun t n l τ => bif Nat.beq t 10 then zdR 0 1 (zdI 1 (fun x1 => zdL 2 (fun x2 => zdI 4 (fun x4 => zdN (I10 n x1 x2 x4 τ))))) l else False
def JIX4_number (I10 : Nat → Int32 → Int64 → Int32 → zS → Prop) (Q : Option Value → zS → Prop) (QX : zS → Prop) : Nat → Option Nat → zLo → zS → Prop := fun t n l τ => False
set_option maxRecDepth 50000 in
theorem pX4_number_0 (I10 : Nat → Int32 → Int64 → Int32 → zS → Prop) (Q : Option Value → zS → Prop) (QX : zS → Prop)   (σ : zS) (h : PX4_number_0 (fun y1 y2 y4 τ => ∃ n', zlt n' none ∧ I10 n' y1 y2 y4 τ) Q QX  σ) : zwp JX4_number (zB hX4_number (zKt jnX4_number (JIX4_number I10 Q QX) (LIX4_number I10) none 0)) Q QX kX4_number 0 (lv_args 0 [.ref 1]) [] σ := h
set_option maxRecDepth 50000 in
theorem pX4_number_10 (I10 : Nat → Int32 → Int64 → Int32 → zS → Prop) (Q : Option Value → zS → Prop) (QX : zS → Prop) (m : Nat) (x1 : Int32) (x2 : Int64) (x4 : Int32) (σ : zS) (h : PX4_number_10 (fun y1 y2 y4 τ => ∃ n', zlt n' (some m) ∧ I10 n' y1 y2 y4 τ) Q QX x1 x2 x4 σ) : zwp JX4_number (zB hX4_number (zKt jnX4_number (JIX4_number I10 Q QX) (LIX4_number I10) (some m) 10)) Q QX kX4_number 10 [(0, .ref 1), (1, .int x1), (2, .long x2), (4, .int x4)] [] σ := h
set_option maxRecDepth 50000 in
theorem rX4_number {Q : Option Value → zS → Prop} {QX : zS → Prop}  {σ : zS} (I10 : Nat → Int32 → Int64 → Int32 → zS → Prop) (hs10 : ∀ (m : Nat) (x1 : Int32) (x2 : Int64) (x4 : Int32) (σ : zS), I10 m x1 x2 x4 σ → PX4_number_10 (fun y1 y2 y4 τ => ∃ n', zlt n' (some m) ∧ I10 n' y1 y2 y4 τ) Q QX x1 x2 x4 σ) (h0 : PX4_number_0 (fun y1 y2 y4 τ => ∃ n', zlt n' none ∧ I10 n' y1 y2 y4 τ) Q QX  σ) : zCT zZC zmX4_number [.ref 1] σ Q QX := by
  refine zCT_of zZC_ok pnX4 (Nat.le_of_ble_eq_true rfl) kX4_number ksX4_number JX4_number 11 (fun t ht => ?_) hX4_number jnX4_number (JIX4_number I10 Q QX) (LIX4_number I10) (fun n t ln σ' ht hj hI => ?_) (fun m t ln σ' ht hj hI => ?_) (pX4_number_0 I10 Q QX  σ h0)
  · have et := Nat.eq_of_beq_eq_true ht; subst et
    exact Nat.le_of_ble_eq_true rfl
  · have et := Nat.eq_of_beq_eq_true ht; subst et
    cases hj
  · have et := Nat.eq_of_beq_eq_true ht; subst et
    have hI : LIX4_number I10 10 m ln σ' := hI
    obtain ⟨l0, e0, hI⟩ := zdR_e (i := 0) (q := 1) hI; subst e0
    obtain ⟨x1, l1, e1, hI⟩ := zdI_e (i := 1) hI; subst e1
    obtain ⟨x2, l2, e2, hI⟩ := zdL_e (i := 2) hI; subst e2
    obtain ⟨x4, l4, e4, hI⟩ := zdI_e (i := 4) hI; subst e4
    obtain ⟨e, hI⟩ := zdN_e hI; subst e
    exact pX4_number_10 I10 Q QX m x1 x2 x4 σ' (hs10 m x1 x2 x4 σ' hI)
def JX4_octetWithin : Nat → Bool := fun t => false && Nat.beq t 0
def jnX4_octetWithin : Nat → Bool := fun t => false && Nat.beq t 0
def hX4_octetWithin : Nat → List Nat := fun t => []
def PX4_octetWithin_0  (Q : Option Value → zS → Prop) (QX : zS → Prop) (a1 : Int32) (a2 : Int32) (σ : zS) : Prop :=
  zCT zZC zmX4_octet [.ref 1] σ (zQi (fun r2 s1 =>
    ((r2 < a1 →
      zCT zZC zmX4_fail [.ref 1, .int (1 : Int32), .int (σ.1 1 2)] s1 (zQv (fun s3 =>
        Q (some (.int r2)) s3)) QX) ∧ (¬ r2 < a1 →
      ((r2 ≤ a2 →
        Q (some (.int r2)) s1) ∧ (¬ r2 ≤ a2 →
        zCT zZC zmX4_fail [.ref 1, .int (1 : Int32), .int (σ.1 1 2)] s1 (zQv (fun s4 =>
          Q (some (.int r2)) s4)) QX)))))) QX
def LIX4_octetWithin  : Nat → Nat → zLo → zS → Prop := fun t n l τ => False
def JIX4_octetWithin  (Q : Option Value → zS → Prop) (QX : zS → Prop) : Nat → Option Nat → zLo → zS → Prop := fun t n l τ => False
set_option maxRecDepth 50000 in
theorem pX4_octetWithin_0  (Q : Option Value → zS → Prop) (QX : zS → Prop)  (a1 : Int32) (a2 : Int32) (σ : zS) (h : PX4_octetWithin_0  Q QX a1 a2 σ) : zwp JX4_octetWithin (zB hX4_octetWithin (zKt jnX4_octetWithin (JIX4_octetWithin  Q QX) (LIX4_octetWithin ) none 0)) Q QX kX4_octetWithin 0 (lv_args 0 [.ref 1, .int a1, .int a2]) [] σ := h
set_option maxRecDepth 50000 in
theorem rX4_octetWithin {Q : Option Value → zS → Prop} {QX : zS → Prop} {a1 : Int32} {a2 : Int32} {σ : zS}   (h0 : PX4_octetWithin_0  Q QX a1 a2 σ) : zCT zZC zmX4_octetWithin [.ref 1, .int a1, .int a2] σ Q QX := by
  refine zCT_of zZC_ok pnX4 (Nat.le_of_ble_eq_true rfl) kX4_octetWithin ksX4_octetWithin JX4_octetWithin 1 (fun t ht => ?_) hX4_octetWithin jnX4_octetWithin (JIX4_octetWithin  Q QX) (LIX4_octetWithin ) (fun n t ln σ' ht hj hI => ?_) (fun m t ln σ' ht hj hI => ?_) (pX4_octetWithin_0  Q QX a1 a2 σ h0)
  · cases ht
  · cases ht
  · cases ht
def JX4_skipSigned : Nat → Bool := fun t => Nat.beq t 8
def jnX4_skipSigned : Nat → Bool := fun t => false && Nat.beq t 0
def hX4_skipSigned : Nat → List Nat := fun t => bif Nat.beq t 8 then [0, 1, 2, 3, 4] else []
def PX4_skipSigned_8 (K8 : Int32 → Int32 → Int32 → Int32 → zS → Prop) (Q : Option Value → zS → Prop) (QX : zS → Prop) (x1 : Int32) (x2 : Int32) (x3 : Int32) (x4 : Int32) (σ : zS) : Prop :=
  ((x1 < x4 →
    Q none σ) ∧ (¬ x1 < x4 →
    (((σ.1 1 4) = 0 →
      zCT zZC zmX4_octet [.ref 1] σ (zQi (fun r2 s1 =>
        ((x4 = x1 →
          ((r2 ≤ x2 →
            (((128 : Int32) ≤ r2 →
              K8 x1 x2 x3 (x4 + 1) s1) ∧ (¬ (128 : Int32) ≤ r2 →
              Q none s1))) ∧ (¬ r2 ≤ x2 →
            ((r2 < ((127 : Int32) - x2) →
              zCT zZC zmX4_fail [.ref 1, .int (1 : Int32), .int x3] s1 (zQv (fun s3 =>
                (((128 : Int32) ≤ r2 →
                  K8 x1 x2 x3 (x4 + 1) s3) ∧ (¬ (128 : Int32) ≤ r2 →
                  Q none s3)))) QX) ∧ (¬ r2 < ((127 : Int32) - x2) →
              ((r2 ≤ (127 : Int32) →
                (((128 : Int32) ≤ r2 →
                  K8 x1 x2 x3 (x4 + 1) s1) ∧ (¬ (128 : Int32) ≤ r2 →
                  Q none s1))) ∧ (¬ r2 ≤ (127 : Int32) →
                zCT zZC zmX4_fail [.ref 1, .int (1 : Int32), .int x3] s1 (zQv (fun s4 =>
                  (((128 : Int32) ≤ r2 →
                    K8 x1 x2 x3 (x4 + 1) s4) ∧ (¬ (128 : Int32) ≤ r2 →
                    Q none s4)))) QX))))))) ∧ (¬ x4 = x1 →
          (((128 : Int32) ≤ r2 →
            K8 x1 x2 x3 (x4 + 1) s1) ∧ (¬ (128 : Int32) ≤ r2 →
            Q none s1)))))) QX) ∧ (¬ (σ.1 1 4) = 0 →
      Q none σ))))
def PX4_skipSigned_0 (K8 : Int32 → Int32 → Int32 → Int32 → zS → Prop) (Q : Option Value → zS → Prop) (QX : zS → Prop) (a1 : Int32) (a2 : Int32) (σ : zS) : Prop :=
  K8 a1 a2 (σ.1 1 2) (1 : Int32) σ
def LIX4_skipSigned (I8 : Nat → Int32 → Int32 → Int32 → Int32 → zS → Prop) : Nat → Nat → zLo → zS → Prop := fun t n l τ => bif Nat.beq t 8 then zdR 0 1 (zdI 1 (fun x1 => zdI 2 (fun x2 => zdI 3 (fun x3 => zdI 4 (fun x4 => zdN (I8 n x1 x2 x3 x4 τ)))))) l else False
def JIX4_skipSigned (I8 : Nat → Int32 → Int32 → Int32 → Int32 → zS → Prop) (Q : Option Value → zS → Prop) (QX : zS → Prop) : Nat → Option Nat → zLo → zS → Prop := fun t n l τ => False
set_option maxRecDepth 50000 in
theorem pX4_skipSigned_0 (I8 : Nat → Int32 → Int32 → Int32 → Int32 → zS → Prop) (Q : Option Value → zS → Prop) (QX : zS → Prop)  (a1 : Int32) (a2 : Int32) (σ : zS) (h : PX4_skipSigned_0 (fun y1 y2 y3 y4 τ => ∃ n', zlt n' none ∧ I8 n' y1 y2 y3 y4 τ) Q QX a1 a2 σ) : zwp JX4_skipSigned (zB hX4_skipSigned (zKt jnX4_skipSigned (JIX4_skipSigned I8 Q QX) (LIX4_skipSigned I8) none 0)) Q QX kX4_skipSigned 0 (lv_args 0 [.ref 1, .int a1, .int a2]) [] σ := h
set_option maxRecDepth 50000 in
theorem pX4_skipSigned_8 (I8 : Nat → Int32 → Int32 → Int32 → Int32 → zS → Prop) (Q : Option Value → zS → Prop) (QX : zS → Prop) (m : Nat) (x1 : Int32) (x2 : Int32) (x3 : Int32) (x4 : Int32) (σ : zS) (h : PX4_skipSigned_8 (fun y1 y2 y3 y4 τ => ∃ n', zlt n' (some m) ∧ I8 n' y1 y2 y3 y4 τ) Q QX x1 x2 x3 x4 σ) : zwp JX4_skipSigned (zB hX4_skipSigned (zKt jnX4_skipSigned (JIX4_skipSigned I8 Q QX) (LIX4_skipSigned I8) (some m) 8)) Q QX kX4_skipSigned 8 [(0, .ref 1), (1, .int x1), (2, .int x2), (3, .int x3), (4, .int x4)] [] σ := h
set_option maxRecDepth 50000 in
theorem rX4_skipSigned {Q : Option Value → zS → Prop} {QX : zS → Prop} {a1 : Int32} {a2 : Int32} {σ : zS} (I8 : Nat → Int32 → Int32 → Int32 → Int32 → zS → Prop) (hs8 : ∀ (m : Nat) (x1 : Int32) (x2 : Int32) (x3 : Int32) (x4 : Int32) (σ : zS), I8 m x1 x2 x3 x4 σ → PX4_skipSigned_8 (fun y1 y2 y3 y4 τ => ∃ n', zlt n' (some m) ∧ I8 n' y1 y2 y3 y4 τ) Q QX x1 x2 x3 x4 σ) (h0 : PX4_skipSigned_0 (fun y1 y2 y3 y4 τ => ∃ n', zlt n' none ∧ I8 n' y1 y2 y3 y4 τ) Q QX a1 a2 σ) : zCT zZC zmX4_skipSigned [.ref 1, .int a1, .int a2] σ Q QX := by
  refine zCT_of zZC_ok pnX4 (Nat.le_of_ble_eq_true rfl) kX4_skipSigned ksX4_skipSigned JX4_skipSigned 9 (fun t ht => ?_) hX4_skipSigned jnX4_skipSigned (JIX4_skipSigned I8 Q QX) (LIX4_skipSigned I8) (fun n t ln σ' ht hj hI => ?_) (fun m t ln σ' ht hj hI => ?_) (pX4_skipSigned_0 I8 Q QX a1 a2 σ h0)
  · have et := Nat.eq_of_beq_eq_true ht; subst et
    exact Nat.le_of_ble_eq_true rfl
  · have et := Nat.eq_of_beq_eq_true ht; subst et
    cases hj
  · have et := Nat.eq_of_beq_eq_true ht; subst et
    have hI : LIX4_skipSigned I8 8 m ln σ' := hI
    obtain ⟨l0, e0, hI⟩ := zdR_e (i := 0) (q := 1) hI; subst e0
    obtain ⟨x1, l1, e1, hI⟩ := zdI_e (i := 1) hI; subst e1
    obtain ⟨x2, l2, e2, hI⟩ := zdI_e (i := 2) hI; subst e2
    obtain ⟨x3, l3, e3, hI⟩ := zdI_e (i := 3) hI; subst e3
    obtain ⟨x4, l4, e4, hI⟩ := zdI_e (i := 4) hI; subst e4
    obtain ⟨e, hI⟩ := zdN_e hI; subst e
    exact pX4_skipSigned_8 I8 Q QX m x1 x2 x3 x4 σ' (hs8 m x1 x2 x3 x4 σ' hI)
def JX6_addMemory : Nat → Bool := fun t => false && Nat.beq t 0
def jnX6_addMemory : Nat → Bool := fun t => false && Nat.beq t 0
def hX6_addMemory : Nat → List Nat := fun t => []
def PX6_addMemory_0  (Q : Option Value → zS → Prop) (QX : zS → Prop) (a1 : Int32) (σ : zS) : Prop :=
  ∀ s1 : zS, s1 = zsI σ 2 11 ((σ.1 2 11) + (1 : Int32)) →
  (((s1.1 2 11) ≤ (1 : Int32) →
    Q none s1) ∧ (¬ (s1.1 2 11) ≤ (1 : Int32) →
    zCT zZC zmX2_noteWrong [.ref 2, .int (4 : Int32), .int a1] s1 (zQv (fun s2 =>
      Q none s2)) QX))
def LIX6_addMemory  : Nat → Nat → zLo → zS → Prop := fun t n l τ => False
def JIX6_addMemory  (Q : Option Value → zS → Prop) (QX : zS → Prop) : Nat → Option Nat → zLo → zS → Prop := fun t n l τ => False
set_option maxRecDepth 50000 in
theorem pX6_addMemory_0  (Q : Option Value → zS → Prop) (QX : zS → Prop)  (a1 : Int32) (σ : zS) (h : PX6_addMemory_0  Q QX a1 σ) : zwp JX6_addMemory (zB hX6_addMemory (zKt jnX6_addMemory (JIX6_addMemory  Q QX) (LIX6_addMemory ) none 0)) Q QX kX6_addMemory 0 (lv_args 0 [.ref 3, .int a1]) [] σ := h
set_option maxRecDepth 50000 in
theorem rX6_addMemory {Q : Option Value → zS → Prop} {QX : zS → Prop} {a1 : Int32} {σ : zS}   (h0 : PX6_addMemory_0  Q QX a1 σ) : zCT zZC zmX6_addMemory [.ref 3, .int a1] σ Q QX := by
  refine zCT_of zZC_ok pnX6 (Nat.le_of_ble_eq_true rfl) kX6_addMemory ksX6_addMemory JX6_addMemory 1 (fun t ht => ?_) hX6_addMemory jnX6_addMemory (JIX6_addMemory  Q QX) (LIX6_addMemory ) (fun n t ln σ' ht hj hI => ?_) (fun m t ln σ' ht hj hI => ?_) (pX6_addMemory_0  Q QX a1 σ h0)
  · cases ht
  · cases ht
  · cases ht
def JX6_addTable : Nat → Bool := fun t => false && Nat.beq t 0
def jnX6_addTable : Nat → Bool := fun t => false && Nat.beq t 0
def hX6_addTable : Nat → List Nat := fun t => []
def PX6_addTable_0  (Q : Option Value → zS → Prop) (QX : zS → Prop) (a1 : Int32) (σ : zS) : Prop :=
  ∀ s1 : zS, s1 = zsI σ 2 10 ((σ.1 2 10) + (1 : Int32)) →
  (((s1.1 2 10) ≤ (1 : Int32) →
    Q none s1) ∧ (¬ (s1.1 2 10) ≤ (1 : Int32) →
    zCT zZC zmX2_noteWrong [.ref 2, .int (2 : Int32), .int a1] s1 (zQv (fun s2 =>
      Q none s2)) QX))
def LIX6_addTable  : Nat → Nat → zLo → zS → Prop := fun t n l τ => False
def JIX6_addTable  (Q : Option Value → zS → Prop) (QX : zS → Prop) : Nat → Option Nat → zLo → zS → Prop := fun t n l τ => False
set_option maxRecDepth 50000 in
theorem pX6_addTable_0  (Q : Option Value → zS → Prop) (QX : zS → Prop)  (a1 : Int32) (σ : zS) (h : PX6_addTable_0  Q QX a1 σ) : zwp JX6_addTable (zB hX6_addTable (zKt jnX6_addTable (JIX6_addTable  Q QX) (LIX6_addTable ) none 0)) Q QX kX6_addTable 0 (lv_args 0 [.ref 3, .int a1]) [] σ := h
set_option maxRecDepth 50000 in
theorem rX6_addTable {Q : Option Value → zS → Prop} {QX : zS → Prop} {a1 : Int32} {σ : zS}   (h0 : PX6_addTable_0  Q QX a1 σ) : zCT zZC zmX6_addTable [.ref 3, .int a1] σ Q QX := by
  refine zCT_of zZC_ok pnX6 (Nat.le_of_ble_eq_true rfl) kX6_addTable ksX6_addTable JX6_addTable 1 (fun t ht => ?_) hX6_addTable jnX6_addTable (JIX6_addTable  Q QX) (LIX6_addTable ) (fun n t ln σ' ht hj hI => ?_) (fun m t ln σ' ht hj hI => ?_) (pX6_addTable_0  Q QX a1 σ h0)
  · cases ht
  · cases ht
  · cases ht
def JX6_fit : Nat → Bool := fun t => false && Nat.beq t 0
def jnX6_fit : Nat → Bool := fun t => false && Nat.beq t 0
def hX6_fit : Nat → List Nat := fun t => []
def PX6_fit_0  (Q : Option Value → zS → Prop) (QX : zS → Prop) (a1 : Int32) (σ : zS) : Prop :=
  ((a1 = (10 : Int32) →
    vp_in (10 : Int32) 13 ∧
    vp_in (3 : Int32) 13 ∧
    (((σ.1 18 (10 : Int32).toNatClampNeg) = (σ.1 18 (3 : Int32).toNatClampNeg) →
      ((a1 = (11 : Int32) →
        (((σ.2 2 14) < (0 : Int64) →
          Q none σ) ∧ (¬ (σ.2 2 14) < (0 : Int64) →
          vp_in (11 : Int32) 13 ∧
          ((((σ.1 18 (11 : Int32).toNatClampNeg).toInt64) = (σ.2 2 14) →
            Q none σ) ∧ (¬ ((σ.1 18 (11 : Int32).toNatClampNeg).toInt64) = (σ.2 2 14) →
            zCT zZC zmX4_fail [.ref 1, .int (1 : Int32), .int (σ.1 1 2)] σ (zQv (fun s1 =>
              Q none s1)) QX))))) ∧ (¬ a1 = (11 : Int32) →
        Q none σ))) ∧ (¬ (σ.1 18 (10 : Int32).toNatClampNeg) = (σ.1 18 (3 : Int32).toNatClampNeg) →
      zCT zZC zmX4_fail [.ref 1, .int (1 : Int32), .int (σ.1 1 2)] σ (zQv (fun s2 =>
        ((a1 = (11 : Int32) →
          (((s2.2 2 14) < (0 : Int64) →
            Q none s2) ∧ (¬ (s2.2 2 14) < (0 : Int64) →
            vp_in (11 : Int32) 13 ∧
            ((((s2.1 18 (11 : Int32).toNatClampNeg).toInt64) = (s2.2 2 14) →
              Q none s2) ∧ (¬ ((s2.1 18 (11 : Int32).toNatClampNeg).toInt64) = (s2.2 2 14) →
              zCT zZC zmX4_fail [.ref 1, .int (1 : Int32), .int (s2.1 1 2)] s2 (zQv (fun s3 =>
                Q none s3)) QX))))) ∧ (¬ a1 = (11 : Int32) →
          Q none s2)))) QX))) ∧ (¬ a1 = (10 : Int32) →
    ((a1 = (11 : Int32) →
      (((σ.2 2 14) < (0 : Int64) →
        Q none σ) ∧ (¬ (σ.2 2 14) < (0 : Int64) →
        vp_in (11 : Int32) 13 ∧
        ((((σ.1 18 (11 : Int32).toNatClampNeg).toInt64) = (σ.2 2 14) →
          Q none σ) ∧ (¬ ((σ.1 18 (11 : Int32).toNatClampNeg).toInt64) = (σ.2 2 14) →
          zCT zZC zmX4_fail [.ref 1, .int (1 : Int32), .int (σ.1 1 2)] σ (zQv (fun s4 =>
            Q none s4)) QX))))) ∧ (¬ a1 = (11 : Int32) →
      Q none σ))))
def LIX6_fit  : Nat → Nat → zLo → zS → Prop := fun t n l τ => False
def JIX6_fit  (Q : Option Value → zS → Prop) (QX : zS → Prop) : Nat → Option Nat → zLo → zS → Prop := fun t n l τ => False
set_option maxRecDepth 50000 in
theorem pX6_fit_0  (Q : Option Value → zS → Prop) (QX : zS → Prop)  (a1 : Int32) (σ : zS) (h : PX6_fit_0  Q QX a1 σ) : zwp JX6_fit (zB hX6_fit (zKt jnX6_fit (JIX6_fit  Q QX) (LIX6_fit ) none 0)) Q QX kX6_fit 0 (lv_args 0 [.ref 3, .int a1]) [] σ := h
set_option maxRecDepth 50000 in
theorem rX6_fit {Q : Option Value → zS → Prop} {QX : zS → Prop} {a1 : Int32} {σ : zS}   (h0 : PX6_fit_0  Q QX a1 σ) : zCT zZC zmX6_fit [.ref 3, .int a1] σ Q QX := by
  refine zCT_of zZC_ok pnX6 (Nat.le_of_ble_eq_true rfl) kX6_fit ksX6_fit JX6_fit 1 (fun t ht => ?_) hX6_fit jnX6_fit (JIX6_fit  Q QX) (LIX6_fit ) (fun n t ln σ' ht hj hI => ?_) (fun m t ln σ' ht hj hI => ?_) (pX6_fit_0  Q QX a1 σ h0)
  · cases ht
  · cases ht
  · cases ht
def JX6_isExported : Nat → Bool := fun t => Nat.beq t 2
def jnX6_isExported : Nat → Bool := fun t => false && Nat.beq t 0
def hX6_isExported : Nat → List Nat := fun t => bif Nat.beq t 2 then [0, 1, 2, 3] else []
def PX6_isExported_2 (K2 : Int32 → Int32 → Int32 → zS → Prop) (Q : Option Value → zS → Prop) (QX : zS → Prop) (x1 : Int32) (x2 : Int32) (x3 : Int32) (σ : zS) : Prop :=
  vp_in (7 : Int32) 13 ∧
  (((σ.1 18 (7 : Int32).toNatClampNeg) ≤ x3 →
    ((0 : Int32) = 0 ∨ (0 : Int32) = 1) ∧ Q (some (.int (0 : Int32))) σ) ∧ (¬ (σ.1 18 (7 : Int32).toNatClampNeg) ≤ x3 →
    (((nI 64) ≤ x3 →
      ((0 : Int32) = 0 ∨ (0 : Int32) = 1) ∧ Q (some (.int (0 : Int32))) σ) ∧ (¬ (nI 64) ≤ x3 →
      vp_in x3 64 ∧
      (((σ.1 20 x3.toNatClampNeg) = x2 →
        vp_in x3 64 ∧
        zCT zZC zmX4_sameBytes [.ref 1, .int (σ.1 19 x3.toNatClampNeg), .int x1, .int x2] σ (zQi (fun r2 s1 =>
          ((r2 = 0 →
            K2 x1 x2 (x3 + 1) s1) ∧ (¬ r2 = 0 →
            ((1 : Int32) = 0 ∨ (1 : Int32) = 1) ∧ Q (some (.int (1 : Int32))) s1)))) QX) ∧ (¬ (σ.1 20 x3.toNatClampNeg) = x2 →
        K2 x1 x2 (x3 + 1) σ))))))
def PX6_isExported_0 (K2 : Int32 → Int32 → Int32 → zS → Prop) (Q : Option Value → zS → Prop) (QX : zS → Prop) (a1 : Int32) (a2 : Int32) (σ : zS) : Prop :=
  K2 a1 a2 (0 : Int32) σ
def LIX6_isExported (I2 : Nat → Int32 → Int32 → Int32 → zS → Prop) : Nat → Nat → zLo → zS → Prop := fun t n l τ => bif Nat.beq t 2 then zdR 0 3 (zdI 1 (fun x1 => zdI 2 (fun x2 => zdI 3 (fun x3 => zdN (I2 n x1 x2 x3 τ))))) l else False
def JIX6_isExported (I2 : Nat → Int32 → Int32 → Int32 → zS → Prop) (Q : Option Value → zS → Prop) (QX : zS → Prop) : Nat → Option Nat → zLo → zS → Prop := fun t n l τ => False
set_option maxRecDepth 50000 in
theorem pX6_isExported_0 (I2 : Nat → Int32 → Int32 → Int32 → zS → Prop) (Q : Option Value → zS → Prop) (QX : zS → Prop)  (a1 : Int32) (a2 : Int32) (σ : zS) (h : PX6_isExported_0 (fun y1 y2 y3 τ => ∃ n', zlt n' none ∧ I2 n' y1 y2 y3 τ) Q QX a1 a2 σ) : zwp JX6_isExported (zB hX6_isExported (zKt jnX6_isExported (JIX6_isExported I2 Q QX) (LIX6_isExported I2) none 0)) Q QX kX6_isExported 0 (lv_args 0 [.ref 3, .int a1, .int a2]) [] σ := h
set_option maxRecDepth 50000 in
theorem pX6_isExported_2 (I2 : Nat → Int32 → Int32 → Int32 → zS → Prop) (Q : Option Value → zS → Prop) (QX : zS → Prop) (m : Nat) (x1 : Int32) (x2 : Int32) (x3 : Int32) (σ : zS) (h : PX6_isExported_2 (fun y1 y2 y3 τ => ∃ n', zlt n' (some m) ∧ I2 n' y1 y2 y3 τ) Q QX x1 x2 x3 σ) : zwp JX6_isExported (zB hX6_isExported (zKt jnX6_isExported (JIX6_isExported I2 Q QX) (LIX6_isExported I2) (some m) 2)) Q QX kX6_isExported 2 [(0, .ref 3), (1, .int x1), (2, .int x2), (3, .int x3)] [] σ := h
set_option maxRecDepth 50000 in
theorem rX6_isExported {Q : Option Value → zS → Prop} {QX : zS → Prop} {a1 : Int32} {a2 : Int32} {σ : zS} (I2 : Nat → Int32 → Int32 → Int32 → zS → Prop) (hs2 : ∀ (m : Nat) (x1 : Int32) (x2 : Int32) (x3 : Int32) (σ : zS), I2 m x1 x2 x3 σ → PX6_isExported_2 (fun y1 y2 y3 τ => ∃ n', zlt n' (some m) ∧ I2 n' y1 y2 y3 τ) Q QX x1 x2 x3 σ) (h0 : PX6_isExported_0 (fun y1 y2 y3 τ => ∃ n', zlt n' none ∧ I2 n' y1 y2 y3 τ) Q QX a1 a2 σ) : zCT zZC zmX6_isExported [.ref 3, .int a1, .int a2] σ Q QX := by
  refine zCT_of zZC_ok pnX6 (Nat.le_of_ble_eq_true rfl) kX6_isExported ksX6_isExported JX6_isExported 3 (fun t ht => ?_) hX6_isExported jnX6_isExported (JIX6_isExported I2 Q QX) (LIX6_isExported I2) (fun n t ln σ' ht hj hI => ?_) (fun m t ln σ' ht hj hI => ?_) (pX6_isExported_0 I2 Q QX a1 a2 σ h0)
  · have et := Nat.eq_of_beq_eq_true ht; subst et
    exact Nat.le_of_ble_eq_true rfl
  · have et := Nat.eq_of_beq_eq_true ht; subst et
    cases hj
  · have et := Nat.eq_of_beq_eq_true ht; subst et
    have hI : LIX6_isExported I2 2 m ln σ' := hI
    obtain ⟨l0, e0, hI⟩ := zdR_e (i := 0) (q := 3) hI; subst e0
    obtain ⟨x1, l1, e1, hI⟩ := zdI_e (i := 1) hI; subst e1
    obtain ⟨x2, l2, e2, hI⟩ := zdI_e (i := 2) hI; subst e2
    obtain ⟨x3, l3, e3, hI⟩ := zdI_e (i := 3) hI; subst e3
    obtain ⟨e, hI⟩ := zdN_e hI; subst e
    exact pX6_isExported_2 I2 Q QX m x1 x2 x3 σ' (hs2 m x1 x2 x3 σ' hI)
def JX6_refuseBeyond : Nat → Bool := fun t => false && Nat.beq t 0
def jnX6_refuseBeyond : Nat → Bool := fun t => false && Nat.beq t 0
def hX6_refuseBeyond : Nat → List Nat := fun t => []
def PX6_refuseBeyond_0  (Q : Option Value → zS → Prop) (QX : zS → Prop) (a1 : Int32) (a2 : Int32) (σ : zS) : Prop :=
  ((a1 < a2 →
    Q none σ) ∧ (¬ a1 < a2 →
    zCT zZC zmX4_fail [.ref 1, .int (4 : Int32), .int (σ.1 1 2)] σ (zQv (fun s1 =>
      Q none s1)) QX))
def LIX6_refuseBeyond  : Nat → Nat → zLo → zS → Prop := fun t n l τ => False
def JIX6_refuseBeyond  (Q : Option Value → zS → Prop) (QX : zS → Prop) : Nat → Option Nat → zLo → zS → Prop := fun t n l τ => False
set_option maxRecDepth 50000 in
theorem pX6_refuseBeyond_0  (Q : Option Value → zS → Prop) (QX : zS → Prop)  (a1 : Int32) (a2 : Int32) (σ : zS) (h : PX6_refuseBeyond_0  Q QX a1 a2 σ) : zwp JX6_refuseBeyond (zB hX6_refuseBeyond (zKt jnX6_refuseBeyond (JIX6_refuseBeyond  Q QX) (LIX6_refuseBeyond ) none 0)) Q QX kX6_refuseBeyond 0 (lv_args 0 [.ref 3, .int a1, .int a2]) [] σ := h
set_option maxRecDepth 50000 in
theorem rX6_refuseBeyond {Q : Option Value → zS → Prop} {QX : zS → Prop} {a1 : Int32} {a2 : Int32} {σ : zS}   (h0 : PX6_refuseBeyond_0  Q QX a1 a2 σ) : zCT zZC zmX6_refuseBeyond [.ref 3, .int a1, .int a2] σ Q QX := by
  refine zCT_of zZC_ok pnX6 (Nat.le_of_ble_eq_true rfl) kX6_refuseBeyond ksX6_refuseBeyond JX6_refuseBeyond 1 (fun t ht => ?_) hX6_refuseBeyond jnX6_refuseBeyond (JIX6_refuseBeyond  Q QX) (LIX6_refuseBeyond ) (fun n t ln σ' ht hj hI => ?_) (fun m t ln σ' ht hj hI => ?_) (pX6_refuseBeyond_0  Q QX a1 a2 σ h0)
  · cases ht
  · cases ht
  · cases ht
def JX7_followAccess : Nat → Bool := fun t => Nat.beq t 84 || Nat.beq t 96
def jnX7_followAccess : Nat → Bool := fun t => Nat.beq t 84 || Nat.beq t 96
def hX7_followAccess : Nat → List Nat := fun t => bif Nat.beq t 84 then [0, 1] else bif Nat.beq t 96 then [0, 1] else []
def PX7_followAccess_96  (Q : Option Value → zS → Prop) (QX : zS → Prop) (x1 : Int32) (σ : zS) : Prop :=
  (((1 : Int32) = 0 →
    ((x1 < (54 : Int32) →
      zCT zZC zmX3_take [.ref 5, .int (127 : Int32)] σ (zQi (fun r2 s1 =>
        zCT zZC zmX3_leave [.ref 5, .int (127 : Int32)] s1 (zQv (fun s3 =>
          Q none s3)) QX)) QX) ∧ (¬ x1 < (54 : Int32) →
      zCT zZC zmX3_take [.ref 5, .int (127 : Int32)] σ (zQi (fun r5 s4 =>
        zCT zZC zmX3_take [.ref 5, .int (127 : Int32)] s4 (zQi (fun r7 s6 =>
          Q none s6)) QX)) QX))) ∧ (¬ (1 : Int32) = 0 →
    ((x1 < (54 : Int32) →
      zCT zZC zmX3_take [.ref 5, .int (127 : Int32)] σ (zQi (fun r9 s8 =>
        zCT zZC zmX3_leave [.ref 5, .int (126 : Int32)] s8 (zQv (fun s10 =>
          Q none s10)) QX)) QX) ∧ (¬ x1 < (54 : Int32) →
      zCT zZC zmX3_take [.ref 5, .int (126 : Int32)] σ (zQi (fun r12 s11 =>
        zCT zZC zmX3_take [.ref 5, .int (127 : Int32)] s11 (zQi (fun r14 s13 =>
          Q none s13)) QX)) QX))))
def PX7_followAccess_84  (Q : Option Value → zS → Prop) (QX : zS → Prop) (x1 : Int32) (σ : zS) : Prop :=
  ((x1 = (55 : Int32) →
    PX7_followAccess_96 Q QX x1 σ) ∧ (¬ x1 = (55 : Int32) →
    ((x1 < (60 : Int32) →
      (((0 : Int32) = 0 →
        ((x1 < (54 : Int32) →
          zCT zZC zmX3_take [.ref 5, .int (127 : Int32)] σ (zQi (fun r2 s1 =>
            zCT zZC zmX3_leave [.ref 5, .int (127 : Int32)] s1 (zQv (fun s3 =>
              Q none s3)) QX)) QX) ∧ (¬ x1 < (54 : Int32) →
          zCT zZC zmX3_take [.ref 5, .int (127 : Int32)] σ (zQi (fun r5 s4 =>
            zCT zZC zmX3_take [.ref 5, .int (127 : Int32)] s4 (zQi (fun r7 s6 =>
              Q none s6)) QX)) QX))) ∧ (¬ (0 : Int32) = 0 →
        ((x1 < (54 : Int32) →
          zCT zZC zmX3_take [.ref 5, .int (127 : Int32)] σ (zQi (fun r9 s8 =>
            zCT zZC zmX3_leave [.ref 5, .int (126 : Int32)] s8 (zQv (fun s10 =>
              Q none s10)) QX)) QX) ∧ (¬ x1 < (54 : Int32) →
          zCT zZC zmX3_take [.ref 5, .int (126 : Int32)] σ (zQi (fun r12 s11 =>
            zCT zZC zmX3_take [.ref 5, .int (127 : Int32)] s11 (zQi (fun r14 s13 =>
              Q none s13)) QX)) QX))))) ∧ (¬ x1 < (60 : Int32) →
      PX7_followAccess_96 Q QX x1 σ))))
def PX7_followAccess_0  (Q : Option Value → zS → Prop) (QX : zS → Prop) (a1 : Int32) (a2 : Int64) (σ : zS) : Prop :=
  (((σ.1 2 11) ≤ 0 →
    zCT zZC zmX3_demand [.ref 5, .int (0 : Int32)] σ (zQv (fun s1 =>
      (((a1 - (40 : Int32)) < 0 →
        zCT zZC zmX3_demand [.ref 5, .int (0 : Int32)] s1 (zQv (fun s2 =>
          ((a1 = (41 : Int32) →
            PX7_followAccess_96 Q QX a1 s2) ∧ (¬ a1 = (41 : Int32) →
            ((a1 < (48 : Int32) →
              PX7_followAccess_84 Q QX a1 s2) ∧ (¬ a1 < (48 : Int32) →
              ((a1 ≤ (53 : Int32) →
                PX7_followAccess_96 Q QX a1 s2) ∧ (¬ a1 ≤ (53 : Int32) →
                PX7_followAccess_84 Q QX a1 s2)))))))) QX) ∧ (¬ (a1 - (40 : Int32)) < 0 →
        (((nI zt_ACCESS_WIDTHS_n) ≤ (a1 - (40 : Int32)) →
          zCT zZC zmX3_demand [.ref 5, .int (0 : Int32)] s1 (zQv (fun s3 =>
            ((a1 = (41 : Int32) →
              PX7_followAccess_96 Q QX a1 s3) ∧ (¬ a1 = (41 : Int32) →
              ((a1 < (48 : Int32) →
                PX7_followAccess_84 Q QX a1 s3) ∧ (¬ a1 < (48 : Int32) →
                ((a1 ≤ (53 : Int32) →
                  PX7_followAccess_96 Q QX a1 s3) ∧ (¬ a1 ≤ (53 : Int32) →
                  PX7_followAccess_84 Q QX a1 s3)))))))) QX) ∧ (¬ (nI zt_ACCESS_WIDTHS_n) ≤ (a1 - (40 : Int32)) →
          vp_in (a1 - (40 : Int32)) zt_ACCESS_WIDTHS_n ∧
          ((((zt_ACCESS_WIDTHS_f (a1 - (40 : Int32)).toNatClampNeg).toInt64) < a2 →
            zCT zZC zmX3_demand [.ref 5, .int (0 : Int32)] s1 (zQv (fun s4 =>
              ((a1 = (41 : Int32) →
                PX7_followAccess_96 Q QX a1 s4) ∧ (¬ a1 = (41 : Int32) →
                ((a1 < (48 : Int32) →
                  PX7_followAccess_84 Q QX a1 s4) ∧ (¬ a1 < (48 : Int32) →
                  ((a1 ≤ (53 : Int32) →
                    PX7_followAccess_96 Q QX a1 s4) ∧ (¬ a1 ≤ (53 : Int32) →
                    PX7_followAccess_84 Q QX a1 s4)))))))) QX) ∧ (¬ ((zt_ACCESS_WIDTHS_f (a1 - (40 : Int32)).toNatClampNeg).toInt64) < a2 →
            zCT zZC zmX3_demand [.ref 5, .int (1 : Int32)] s1 (zQv (fun s5 =>
              ((a1 = (41 : Int32) →
                PX7_followAccess_96 Q QX a1 s5) ∧ (¬ a1 = (41 : Int32) →
                ((a1 < (48 : Int32) →
                  PX7_followAccess_84 Q QX a1 s5) ∧ (¬ a1 < (48 : Int32) →
                  ((a1 ≤ (53 : Int32) →
                    PX7_followAccess_96 Q QX a1 s5) ∧ (¬ a1 ≤ (53 : Int32) →
                    PX7_followAccess_84 Q QX a1 s5)))))))) QX)))))))) QX) ∧ (¬ (σ.1 2 11) ≤ 0 →
    zCT zZC zmX3_demand [.ref 5, .int (1 : Int32)] σ (zQv (fun s6 =>
      (((a1 - (40 : Int32)) < 0 →
        zCT zZC zmX3_demand [.ref 5, .int (0 : Int32)] s6 (zQv (fun s7 =>
          ((a1 = (41 : Int32) →
            PX7_followAccess_96 Q QX a1 s7) ∧ (¬ a1 = (41 : Int32) →
            ((a1 < (48 : Int32) →
              PX7_followAccess_84 Q QX a1 s7) ∧ (¬ a1 < (48 : Int32) →
              ((a1 ≤ (53 : Int32) →
                PX7_followAccess_96 Q QX a1 s7) ∧ (¬ a1 ≤ (53 : Int32) →
                PX7_followAccess_84 Q QX a1 s7)))))))) QX) ∧ (¬ (a1 - (40 : Int32)) < 0 →
        (((nI zt_ACCESS_WIDTHS_n) ≤ (a1 - (40 : Int32)) →
          zCT zZC zmX3_demand [.ref 5, .int (0 : Int32)] s6 (zQv (fun s8 =>
            ((a1 = (41 : Int32) →
              PX7_followAccess_96 Q QX a1 s8) ∧ (¬ a1 = (41 : Int32) →
              ((a1 < (48 : Int32) →
                PX7_followAccess_84 Q QX a1 s8) ∧ (¬ a1 < (48 : Int32) →
                ((a1 ≤ (53 : Int32) →
                  PX7_followAccess_96 Q QX a1 s8) ∧ (¬ a1 ≤ (53 : Int32) →
                  PX7_followAccess_84 Q QX a1 s8)))))))) QX) ∧ (¬ (nI zt_ACCESS_WIDTHS_n) ≤ (a1 - (40 : Int32)) →
          vp_in (a1 - (40 : Int32)) zt_ACCESS_WIDTHS_n ∧
          ((((zt_ACCESS_WIDTHS_f (a1 - (40 : Int32)).toNatClampNeg).toInt64) < a2 →
            zCT zZC zmX3_demand [.ref 5, .int (0 : Int32)] s6 (zQv (fun s9 =>
              ((a1 = (41 : Int32) →
                PX7_followAccess_96 Q QX a1 s9) ∧ (¬ a1 = (41 : Int32) →
                ((a1 < (48 : Int32) →
                  PX7_followAccess_84 Q QX a1 s9) ∧ (¬ a1 < (48 : Int32) →
                  ((a1 ≤ (53 : Int32) →
                    PX7_followAccess_96 Q QX a1 s9) ∧ (¬ a1 ≤ (53 : Int32) →
                    PX7_followAccess_84 Q QX a1 s9)))))))) QX) ∧ (¬ ((zt_ACCESS_WIDTHS_f (a1 - (40 : Int32)).toNatClampNeg).toInt64) < a2 →
            zCT zZC zmX3_demand [.ref 5, .int (1 : Int32)] s6 (zQv (fun s10 =>
              ((a1 = (41 : Int32) →
                PX7_followAccess_96 Q QX a1 s10) ∧ (¬ a1 = (41 : Int32) →
                ((a1 < (48 : Int32) →
                  PX7_followAccess_84 Q QX a1 s10) ∧ (¬ a1 < (48 : Int32) →
                  ((a1 ≤ (53 : Int32) →
                    PX7_followAccess_96 Q QX a1 s10) ∧ (¬ a1 ≤ (53 : Int32) →
                    PX7_followAccess_84 Q QX a1 s10)))))))) QX)))))))) QX))
def LIX7_followAccess  : Nat → Nat → zLo → zS → Prop := fun t n l τ => False
def JIX7_followAccess  (Q : Option Value → zS → Prop) (QX : zS → Prop) : Nat → Option Nat → zLo → zS → Prop := fun t n l τ => bif Nat.beq t 84 then zdR 0 7 (zdI 1 (fun x1 => zdN (PX7_followAccess_84  Q QX x1 τ))) l else bif Nat.beq t 96 then zdR 0 7 (zdI 1 (fun x1 => zdN (PX7_followAccess_96  Q QX x1 τ))) l else False
set_option maxRecDepth 50000 in
theorem pX7_followAccess_0  (Q : Option Value → zS → Prop) (QX : zS → Prop)  (a1 : Int32) (a2 : Int64) (σ : zS) (h : PX7_followAccess_0  Q QX a1 a2 σ) : zwp JX7_followAccess (zB hX7_followAccess (zKt jnX7_followAccess (JIX7_followAccess  Q QX) (LIX7_followAccess ) none 0)) Q QX kX7_followAccess 0 (lv_args 0 [.ref 7, .int a1, .long a2]) [] σ := h
set_option maxRecDepth 50000 in
theorem pX7_followAccess_84  (Q : Option Value → zS → Prop) (QX : zS → Prop) (n : Option Nat) (x1 : Int32) (σ : zS) (h : PX7_followAccess_84  Q QX x1 σ) : zwp JX7_followAccess (zB hX7_followAccess (zKt jnX7_followAccess (JIX7_followAccess  Q QX) (LIX7_followAccess ) n 84)) Q QX kX7_followAccess 84 [(0, .ref 7), (1, .int x1)] [] σ := h
set_option maxRecDepth 50000 in
theorem pX7_followAccess_96  (Q : Option Value → zS → Prop) (QX : zS → Prop) (n : Option Nat) (x1 : Int32) (σ : zS) (h : PX7_followAccess_96  Q QX x1 σ) : zwp JX7_followAccess (zB hX7_followAccess (zKt jnX7_followAccess (JIX7_followAccess  Q QX) (LIX7_followAccess ) n 96)) Q QX kX7_followAccess 96 [(0, .ref 7), (1, .int x1)] [] σ := h
set_option maxRecDepth 50000 in
theorem rX7_followAccess {Q : Option Value → zS → Prop} {QX : zS → Prop} {a1 : Int32} {a2 : Int64} {σ : zS}   (h0 : PX7_followAccess_0  Q QX a1 a2 σ) : zCT zZC zmX7_followAccess [.ref 7, .int a1, .long a2] σ Q QX := by
  refine zCT_of zZC_ok pnX7 (Nat.le_of_ble_eq_true rfl) kX7_followAccess ksX7_followAccess JX7_followAccess 97 (fun t ht => ?_) hX7_followAccess jnX7_followAccess (JIX7_followAccess  Q QX) (LIX7_followAccess ) (fun n t ln σ' ht hj hI => ?_) (fun m t ln σ' ht hj hI => ?_) (pX7_followAccess_0  Q QX a1 a2 σ h0)
  · refine zor ht (fun ht => ?_) (fun ht => ?_)
    · skip
      have et := Nat.eq_of_beq_eq_true ht; subst et
      exact Nat.le_of_ble_eq_true rfl
    · skip
      have et := Nat.eq_of_beq_eq_true ht; subst et
      exact Nat.le_of_ble_eq_true rfl
  · refine zor ht (fun ht => ?_) (fun ht => ?_)
    · skip
      have et := Nat.eq_of_beq_eq_true ht; subst et
      have hI : JIX7_followAccess  Q QX 84 n ln σ' := hI
      obtain ⟨l0, e0, hI⟩ := zdR_e (i := 0) (q := 7) hI; subst e0
      obtain ⟨x1, l1, e1, hI⟩ := zdI_e (i := 1) hI; subst e1
      obtain ⟨e, hI⟩ := zdN_e hI; subst e
      exact pX7_followAccess_84  Q QX n x1 σ' hI
    · skip
      have et := Nat.eq_of_beq_eq_true ht; subst et
      have hI : JIX7_followAccess  Q QX 96 n ln σ' := hI
      obtain ⟨l0, e0, hI⟩ := zdR_e (i := 0) (q := 7) hI; subst e0
      obtain ⟨x1, l1, e1, hI⟩ := zdI_e (i := 1) hI; subst e1
      obtain ⟨e, hI⟩ := zdN_e hI; subst e
      exact pX7_followAccess_96  Q QX n x1 σ' hI
  · refine zor ht (fun ht => ?_) (fun ht => ?_)
    · skip
      have et := Nat.eq_of_beq_eq_true ht; subst et
      cases hj
    · skip
      have et := Nat.eq_of_beq_eq_true ht; subst et
      cases hj
def JX7_followCall : Nat → Bool := fun t => Nat.beq t 77 || Nat.beq t 107
def jnX7_followCall : Nat → Bool := fun t => Nat.beq t 77
def hX7_followCall : Nat → List Nat := fun t => bif Nat.beq t 77 then [0, 4] else bif Nat.beq t 107 then [0, 4, 5] else []
def PX7_followCall_107 (K107 : Int32 → Int32 → zS → Prop) (Q : Option Value → zS → Prop) (QX : zS → Prop) (x4 : Int32) (x5 : Int32) (σ : zS) : Prop :=
  ((x5 < 0 →
    zCT zZC zmX2_resultOf [.ref 2, .int x4] σ (zQi (fun r2 s1 =>
      zCT zZC zmX3_leave [.ref 5, .int r2] s1 (zQv (fun s3 =>
        Q none s3)) QX)) QX) ∧ (¬ x5 < 0 →
    zCT zZC zmX2_parameter [.ref 2, .int x4, .int x5] σ (zQi (fun r5 s4 =>
      zCT zZC zmX3_take [.ref 5, .int r5] s4 (zQi (fun r7 s6 =>
        K107 x4 (x5 + (-1)) s6)) QX)) QX))
def PX7_followCall_77 (K107 : Int32 → Int32 → zS → Prop) (Q : Option Value → zS → Prop) (QX : zS → Prop) (x4 : Int32) (σ : zS) : Prop :=
  ((x4 < 0 →
    zCT zZC zmX3_demand [.ref 5, .int (0 : Int32)] σ (zQv (fun s1 =>
      zCT zZC zmX2_parameterCount [.ref 2, .int x4] s1 (zQi (fun r3 s2 =>
        K107 x4 (r3 - (1 : Int32)) s2)) QX)) QX) ∧ (¬ x4 < 0 →
    zCT zZC zmX3_demand [.ref 5, .int (1 : Int32)] σ (zQv (fun s4 =>
      zCT zZC zmX2_parameterCount [.ref 2, .int x4] s4 (zQi (fun r6 s5 =>
        K107 x4 (r6 - (1 : Int32)) s5)) QX)) QX))
def PX7_followCall_0 (K107 : Int32 → Int32 → zS → Prop) (Q : Option Value → zS → Prop) (QX : zS → Prop) (a1 : Int32) (a2 : Int64) (σ : zS) : Prop :=
  ((a1 = (16 : Int32) →
    zCT zZC zmX2_signatureOf [.ref 2, .long a2] σ (zQi (fun r2 s1 =>
      PX7_followCall_77 K107 Q QX r2 s1)) QX) ∧ (¬ a1 = (16 : Int32) →
    (((σ.1 2 10) ≤ 0 →
      zCT zZC zmX3_demand [.ref 5, .int (0 : Int32)] σ (zQv (fun s3 =>
        zCT zZC zmX3_take [.ref 5, .int (127 : Int32)] s3 (zQi (fun r5 s4 =>
          vp_in (1 : Int32) 13 ∧
          ((((s4.1 18 (1 : Int32).toNatClampNeg).toInt64) ≤ a2 →
            PX7_followCall_77 K107 Q QX (-1 : Int32) s4) ∧ (¬ ((s4.1 18 (1 : Int32).toNatClampNeg).toInt64) ≤ a2 →
            PX7_followCall_77 K107 Q QX (a2.toInt32) s4)))) QX)) QX) ∧ (¬ (σ.1 2 10) ≤ 0 →
      zCT zZC zmX3_demand [.ref 5, .int (1 : Int32)] σ (zQv (fun s6 =>
        zCT zZC zmX3_take [.ref 5, .int (127 : Int32)] s6 (zQi (fun r8 s7 =>
          vp_in (1 : Int32) 13 ∧
          ((((s7.1 18 (1 : Int32).toNatClampNeg).toInt64) ≤ a2 →
            PX7_followCall_77 K107 Q QX (-1 : Int32) s7) ∧ (¬ ((s7.1 18 (1 : Int32).toNatClampNeg).toInt64) ≤ a2 →
            PX7_followCall_77 K107 Q QX (a2.toInt32) s7)))) QX)) QX))))
def LIX7_followCall (I107 : Nat → Int32 → Int32 → zS → Prop) : Nat → Nat → zLo → zS → Prop := fun t n l τ => bif Nat.beq t 107 then zdR 0 7 (zdI 4 (fun x4 => zdI 5 (fun x5 => zdN (I107 n x4 x5 τ)))) l else False
def JIX7_followCall (I107 : Nat → Int32 → Int32 → zS → Prop) (Q : Option Value → zS → Prop) (QX : zS → Prop) : Nat → Option Nat → zLo → zS → Prop := fun t n l τ => bif Nat.beq t 77 then zdR 0 7 (zdI 4 (fun x4 => zdN (PX7_followCall_77 (fun y4 y5 τ => ∃ n', zlt n' n ∧ I107 n' y4 y5 τ) Q QX x4 τ))) l else False
set_option maxRecDepth 50000 in
theorem pX7_followCall_0 (I107 : Nat → Int32 → Int32 → zS → Prop) (Q : Option Value → zS → Prop) (QX : zS → Prop)  (a1 : Int32) (a2 : Int64) (σ : zS) (h : PX7_followCall_0 (fun y4 y5 τ => ∃ n', zlt n' none ∧ I107 n' y4 y5 τ) Q QX a1 a2 σ) : zwp JX7_followCall (zB hX7_followCall (zKt jnX7_followCall (JIX7_followCall I107 Q QX) (LIX7_followCall I107) none 0)) Q QX kX7_followCall 0 (lv_args 0 [.ref 7, .int a1, .long a2]) [] σ := h
set_option maxRecDepth 50000 in
theorem pX7_followCall_77 (I107 : Nat → Int32 → Int32 → zS → Prop) (Q : Option Value → zS → Prop) (QX : zS → Prop) (n : Option Nat) (x4 : Int32) (σ : zS) (h : PX7_followCall_77 (fun y4 y5 τ => ∃ n', zlt n' n ∧ I107 n' y4 y5 τ) Q QX x4 σ) : zwp JX7_followCall (zB hX7_followCall (zKt jnX7_followCall (JIX7_followCall I107 Q QX) (LIX7_followCall I107) n 77)) Q QX kX7_followCall 77 [(0, .ref 7), (4, .int x4)] [] σ := h
set_option maxRecDepth 50000 in
theorem pX7_followCall_107 (I107 : Nat → Int32 → Int32 → zS → Prop) (Q : Option Value → zS → Prop) (QX : zS → Prop) (m : Nat) (x4 : Int32) (x5 : Int32) (σ : zS) (h : PX7_followCall_107 (fun y4 y5 τ => ∃ n', zlt n' (some m) ∧ I107 n' y4 y5 τ) Q QX x4 x5 σ) : zwp JX7_followCall (zB hX7_followCall (zKt jnX7_followCall (JIX7_followCall I107 Q QX) (LIX7_followCall I107) (some m) 107)) Q QX kX7_followCall 107 [(0, .ref 7), (4, .int x4), (5, .int x5)] [] σ := h
set_option maxRecDepth 50000 in
theorem rX7_followCall {Q : Option Value → zS → Prop} {QX : zS → Prop} {a1 : Int32} {a2 : Int64} {σ : zS} (I107 : Nat → Int32 → Int32 → zS → Prop) (hs107 : ∀ (m : Nat) (x4 : Int32) (x5 : Int32) (σ : zS), I107 m x4 x5 σ → PX7_followCall_107 (fun y4 y5 τ => ∃ n', zlt n' (some m) ∧ I107 n' y4 y5 τ) Q QX x4 x5 σ) (h0 : PX7_followCall_0 (fun y4 y5 τ => ∃ n', zlt n' none ∧ I107 n' y4 y5 τ) Q QX a1 a2 σ) : zCT zZC zmX7_followCall [.ref 7, .int a1, .long a2] σ Q QX := by
  refine zCT_of zZC_ok pnX7 (Nat.le_of_ble_eq_true rfl) kX7_followCall ksX7_followCall JX7_followCall 108 (fun t ht => ?_) hX7_followCall jnX7_followCall (JIX7_followCall I107 Q QX) (LIX7_followCall I107) (fun n t ln σ' ht hj hI => ?_) (fun m t ln σ' ht hj hI => ?_) (pX7_followCall_0 I107 Q QX a1 a2 σ h0)
  · refine zor ht (fun ht => ?_) (fun ht => ?_)
    · skip
      have et := Nat.eq_of_beq_eq_true ht; subst et
      exact Nat.le_of_ble_eq_true rfl
    · skip
      have et := Nat.eq_of_beq_eq_true ht; subst et
      exact Nat.le_of_ble_eq_true rfl
  · refine zor ht (fun ht => ?_) (fun ht => ?_)
    · skip
      have et := Nat.eq_of_beq_eq_true ht; subst et
      have hI : JIX7_followCall I107 Q QX 77 n ln σ' := hI
      obtain ⟨l0, e0, hI⟩ := zdR_e (i := 0) (q := 7) hI; subst e0
      obtain ⟨x4, l4, e4, hI⟩ := zdI_e (i := 4) hI; subst e4
      obtain ⟨e, hI⟩ := zdN_e hI; subst e
      exact pX7_followCall_77 I107 Q QX n x4 σ' hI
    · skip
      have et := Nat.eq_of_beq_eq_true ht; subst et
      cases hj
  · refine zor ht (fun ht => ?_) (fun ht => ?_)
    · skip
      have et := Nat.eq_of_beq_eq_true ht; subst et
      cases hj
    · skip
      have et := Nat.eq_of_beq_eq_true ht; subst et
      have hI : LIX7_followCall I107 107 m ln σ' := hI
      obtain ⟨l0, e0, hI⟩ := zdR_e (i := 0) (q := 7) hI; subst e0
      obtain ⟨x4, l4, e4, hI⟩ := zdI_e (i := 4) hI; subst e4
      obtain ⟨x5, l5, e5, hI⟩ := zdI_e (i := 5) hI; subst e5
      obtain ⟨e, hI⟩ := zdN_e hI; subst e
      exact pX7_followCall_107 I107 Q QX m x4 x5 σ' (hs107 m x4 x5 σ' hI)
def JX7_followChoice : Nat → Bool := fun t => false && Nat.beq t 0
def jnX7_followChoice : Nat → Bool := fun t => false && Nat.beq t 0
def hX7_followChoice : Nat → List Nat := fun t => []
def PX7_followChoice_0  (Q : Option Value → zS → Prop) (QX : zS → Prop) (a1 : Int32) (σ : zS) : Prop :=
  ((a1 = (26 : Int32) →
    zCT zZC zmX3_take [.ref 5, .int (0 : Int32)] σ (zQi (fun r2 s1 =>
      Q none s1)) QX) ∧ (¬ a1 = (26 : Int32) →
    zCT zZC zmX3_take [.ref 5, .int (127 : Int32)] σ (zQi (fun r4 s3 =>
      zCT zZC zmX3_take [.ref 5, .int (0 : Int32)] s3 (zQi (fun r6 s5 =>
        zCT zZC zmX3_take [.ref 5, .int (0 : Int32)] s5 (zQi (fun r8 s7 =>
          ((r8 = r6 →
            zCT zZC zmX3_demand [.ref 5, .int (1 : Int32)] s7 (zQv (fun s9 =>
              ((r8 = 0 →
                zCT zZC zmX3_leave [.ref 5, .int r6] s9 (zQv (fun s10 =>
                  Q none s10)) QX) ∧ (¬ r8 = 0 →
                zCT zZC zmX3_leave [.ref 5, .int r8] s9 (zQv (fun s11 =>
                  Q none s11)) QX)))) QX) ∧ (¬ r8 = r6 →
            ((r8 = 0 →
              zCT zZC zmX3_demand [.ref 5, .int (1 : Int32)] s7 (zQv (fun s12 =>
                ((r8 = 0 →
                  zCT zZC zmX3_leave [.ref 5, .int r6] s12 (zQv (fun s13 =>
                    Q none s13)) QX) ∧ (¬ r8 = 0 →
                  zCT zZC zmX3_leave [.ref 5, .int r8] s12 (zQv (fun s14 =>
                    Q none s14)) QX)))) QX) ∧ (¬ r8 = 0 →
              ((r6 = 0 →
                zCT zZC zmX3_demand [.ref 5, .int (1 : Int32)] s7 (zQv (fun s15 =>
                  ((r8 = 0 →
                    zCT zZC zmX3_leave [.ref 5, .int r6] s15 (zQv (fun s16 =>
                      Q none s16)) QX) ∧ (¬ r8 = 0 →
                    zCT zZC zmX3_leave [.ref 5, .int r8] s15 (zQv (fun s17 =>
                      Q none s17)) QX)))) QX) ∧ (¬ r6 = 0 →
                zCT zZC zmX3_demand [.ref 5, .int (0 : Int32)] s7 (zQv (fun s18 =>
                  ((r8 = 0 →
                    zCT zZC zmX3_leave [.ref 5, .int r6] s18 (zQv (fun s19 =>
                      Q none s19)) QX) ∧ (¬ r8 = 0 →
                    zCT zZC zmX3_leave [.ref 5, .int r8] s18 (zQv (fun s20 =>
                      Q none s20)) QX)))) QX)))))))) QX)) QX)) QX))
def LIX7_followChoice  : Nat → Nat → zLo → zS → Prop := fun t n l τ => False
def JIX7_followChoice  (Q : Option Value → zS → Prop) (QX : zS → Prop) : Nat → Option Nat → zLo → zS → Prop := fun t n l τ => False
set_option maxRecDepth 50000 in
theorem pX7_followChoice_0  (Q : Option Value → zS → Prop) (QX : zS → Prop)  (a1 : Int32) (σ : zS) (h : PX7_followChoice_0  Q QX a1 σ) : zwp JX7_followChoice (zB hX7_followChoice (zKt jnX7_followChoice (JIX7_followChoice  Q QX) (LIX7_followChoice ) none 0)) Q QX kX7_followChoice 0 (lv_args 0 [.ref 7, .int a1]) [] σ := h
set_option maxRecDepth 50000 in
theorem rX7_followChoice {Q : Option Value → zS → Prop} {QX : zS → Prop} {a1 : Int32} {σ : zS}   (h0 : PX7_followChoice_0  Q QX a1 σ) : zCT zZC zmX7_followChoice [.ref 7, .int a1] σ Q QX := by
  refine zCT_of zZC_ok pnX7 (Nat.le_of_ble_eq_true rfl) kX7_followChoice ksX7_followChoice JX7_followChoice 1 (fun t ht => ?_) hX7_followChoice jnX7_followChoice (JIX7_followChoice  Q QX) (LIX7_followChoice ) (fun n t ln σ' ht hj hI => ?_) (fun m t ln σ' ht hj hI => ?_) (pX7_followChoice_0  Q QX a1 σ h0)
  · cases ht
  · cases ht
  · cases ht
def JX7_followFrame : Nat → Bool := fun t => Nat.beq t 43 || Nat.beq t 64
def jnX7_followFrame : Nat → Bool := fun t => Nat.beq t 43 || Nat.beq t 64
def hX7_followFrame : Nat → List Nat := fun t => bif Nat.beq t 43 then [0, 1] else bif Nat.beq t 64 then [0] else []
def PX7_followFrame_64  (Q : Option Value → zS → Prop) (QX : zS → Prop)  (σ : zS) : Prop :=
  (((0 : Int32) = 0 →
    zCT zZC zmX3_demand [.ref 5, .int (1 : Int32)] σ (zQv (fun s1 =>
      zCT zZC zmX3_result [.ref 5] s1 (zQi (fun r3 s2 =>
        zCT zZC zmX3_take [.ref 5, .int r3] s2 (zQi (fun r5 s4 =>
          zCT zZC zmX3_isEmpty [.ref 5] s4 (zQi (fun r7 s6 =>
            zCT zZC zmX3_demand [.ref 5, .int r7] s6 (zQv (fun s8 =>
              Q none s8)) QX)) QX)) QX)) QX)) QX) ∧ (¬ (0 : Int32) = 0 →
    zCT zZC zmX3_result [.ref 5] σ (zQi (fun r10 s9 =>
      ((r10 = (64 : Int32) →
        zCT zZC zmX3_demand [.ref 5, .int (1 : Int32)] s9 (zQv (fun s11 =>
          zCT zZC zmX3_result [.ref 5] s11 (zQi (fun r13 s12 =>
            zCT zZC zmX3_take [.ref 5, .int r13] s12 (zQi (fun r15 s14 =>
              zCT zZC zmX3_isEmpty [.ref 5] s14 (zQi (fun r17 s16 =>
                zCT zZC zmX3_demand [.ref 5, .int r17] s16 (zQv (fun s18 =>
                  Q none s18)) QX)) QX)) QX)) QX)) QX) ∧ (¬ r10 = (64 : Int32) →
        zCT zZC zmX3_demand [.ref 5, .int (0 : Int32)] s9 (zQv (fun s19 =>
          zCT zZC zmX3_result [.ref 5] s19 (zQi (fun r21 s20 =>
            zCT zZC zmX3_take [.ref 5, .int r21] s20 (zQi (fun r23 s22 =>
              zCT zZC zmX3_isEmpty [.ref 5] s22 (zQi (fun r25 s24 =>
                zCT zZC zmX3_demand [.ref 5, .int r25] s24 (zQv (fun s26 =>
                  Q none s26)) QX)) QX)) QX)) QX)) QX)))) QX))
def PX7_followFrame_43  (Q : Option Value → zS → Prop) (QX : zS → Prop) (x1 : Int32) (σ : zS) : Prop :=
  ((x1 = (11 : Int32) →
    zCT zZC zmX3_openedBy [.ref 5] σ (zQi (fun r2 s1 =>
      ((r2 = (4 : Int32) →
        (((1 : Int32) = 0 →
          zCT zZC zmX3_demand [.ref 5, .int (1 : Int32)] s1 (zQv (fun s3 =>
            zCT zZC zmX3_result [.ref 5] s3 (zQi (fun r5 s4 =>
              zCT zZC zmX3_take [.ref 5, .int r5] s4 (zQi (fun r7 s6 =>
                zCT zZC zmX3_isEmpty [.ref 5] s6 (zQi (fun r9 s8 =>
                  zCT zZC zmX3_demand [.ref 5, .int r9] s8 (zQv (fun s10 =>
                    Q none s10)) QX)) QX)) QX)) QX)) QX) ∧ (¬ (1 : Int32) = 0 →
          zCT zZC zmX3_result [.ref 5] s1 (zQi (fun r12 s11 =>
            ((r12 = (64 : Int32) →
              zCT zZC zmX3_demand [.ref 5, .int (1 : Int32)] s11 (zQv (fun s13 =>
                zCT zZC zmX3_result [.ref 5] s13 (zQi (fun r15 s14 =>
                  zCT zZC zmX3_take [.ref 5, .int r15] s14 (zQi (fun r17 s16 =>
                    zCT zZC zmX3_isEmpty [.ref 5] s16 (zQi (fun r19 s18 =>
                      zCT zZC zmX3_demand [.ref 5, .int r19] s18 (zQv (fun s20 =>
                        Q none s20)) QX)) QX)) QX)) QX)) QX) ∧ (¬ r12 = (64 : Int32) →
              zCT zZC zmX3_demand [.ref 5, .int (0 : Int32)] s11 (zQv (fun s21 =>
                zCT zZC zmX3_result [.ref 5] s21 (zQi (fun r23 s22 =>
                  zCT zZC zmX3_take [.ref 5, .int r23] s22 (zQi (fun r25 s24 =>
                    zCT zZC zmX3_isEmpty [.ref 5] s24 (zQi (fun r27 s26 =>
                      zCT zZC zmX3_demand [.ref 5, .int r27] s26 (zQv (fun s28 =>
                        Q none s28)) QX)) QX)) QX)) QX)) QX)))) QX))) ∧ (¬ r2 = (4 : Int32) →
        PX7_followFrame_64 Q QX s1)))) QX) ∧ (¬ x1 = (11 : Int32) →
    PX7_followFrame_64 Q QX σ))
def PX7_followFrame_0  (Q : Option Value → zS → Prop) (QX : zS → Prop) (a1 : Int32) (σ : zS) : Prop :=
  ((a1 = 0 →
    zCT zZC zmX3_forget [.ref 5] σ (zQv (fun s1 =>
      Q none s1)) QX) ∧ (¬ a1 = 0 →
    ((a1 = (4 : Int32) →
      zCT zZC zmX3_take [.ref 5, .int (127 : Int32)] σ (zQi (fun r3 s2 =>
        Q none s2)) QX) ∧ (¬ a1 = (4 : Int32) →
      ((a1 = (5 : Int32) →
        PX7_followFrame_43 Q QX a1 σ) ∧ (¬ a1 = (5 : Int32) →
        ((a1 = (11 : Int32) →
          PX7_followFrame_43 Q QX a1 σ) ∧ (¬ a1 = (11 : Int32) →
          Q none σ))))))))
def LIX7_followFrame  : Nat → Nat → zLo → zS → Prop := fun t n l τ => False
def JIX7_followFrame  (Q : Option Value → zS → Prop) (QX : zS → Prop) : Nat → Option Nat → zLo → zS → Prop := fun t n l τ => bif Nat.beq t 43 then zdR 0 7 (zdI 1 (fun x1 => zdN (PX7_followFrame_43  Q QX x1 τ))) l else bif Nat.beq t 64 then zdR 0 7 (zdN (PX7_followFrame_64  Q QX  τ)) l else False
set_option maxRecDepth 50000 in
theorem pX7_followFrame_0  (Q : Option Value → zS → Prop) (QX : zS → Prop)  (a1 : Int32) (σ : zS) (h : PX7_followFrame_0  Q QX a1 σ) : zwp JX7_followFrame (zB hX7_followFrame (zKt jnX7_followFrame (JIX7_followFrame  Q QX) (LIX7_followFrame ) none 0)) Q QX kX7_followFrame 0 (lv_args 0 [.ref 7, .int a1]) [] σ := h
set_option maxRecDepth 50000 in
theorem pX7_followFrame_43  (Q : Option Value → zS → Prop) (QX : zS → Prop) (n : Option Nat) (x1 : Int32) (σ : zS) (h : PX7_followFrame_43  Q QX x1 σ) : zwp JX7_followFrame (zB hX7_followFrame (zKt jnX7_followFrame (JIX7_followFrame  Q QX) (LIX7_followFrame ) n 43)) Q QX kX7_followFrame 43 [(0, .ref 7), (1, .int x1)] [] σ := h
set_option maxRecDepth 50000 in
theorem pX7_followFrame_64  (Q : Option Value → zS → Prop) (QX : zS → Prop) (n : Option Nat)  (σ : zS) (h : PX7_followFrame_64  Q QX  σ) : zwp JX7_followFrame (zB hX7_followFrame (zKt jnX7_followFrame (JIX7_followFrame  Q QX) (LIX7_followFrame ) n 64)) Q QX kX7_followFrame 64 [(0, .ref 7)] [] σ := h
set_option maxRecDepth 50000 in
theorem rX7_followFrame {Q : Option Value → zS → Prop} {QX : zS → Prop} {a1 : Int32} {σ : zS}   (h0 : PX7_followFrame_0  Q QX a1 σ) : zCT zZC zmX7_followFrame [.ref 7, .int a1] σ Q QX := by
  refine zCT_of zZC_ok pnX7 (Nat.le_of_ble_eq_true rfl) kX7_followFrame ksX7_followFrame JX7_followFrame 65 (fun t ht => ?_) hX7_followFrame jnX7_followFrame (JIX7_followFrame  Q QX) (LIX7_followFrame ) (fun n t ln σ' ht hj hI => ?_) (fun m t ln σ' ht hj hI => ?_) (pX7_followFrame_0  Q QX a1 σ h0)
  · refine zor ht (fun ht => ?_) (fun ht => ?_)
    · skip
      have et := Nat.eq_of_beq_eq_true ht; subst et
      exact Nat.le_of_ble_eq_true rfl
    · skip
      have et := Nat.eq_of_beq_eq_true ht; subst et
      exact Nat.le_of_ble_eq_true rfl
  · refine zor ht (fun ht => ?_) (fun ht => ?_)
    · skip
      have et := Nat.eq_of_beq_eq_true ht; subst et
      have hI : JIX7_followFrame  Q QX 43 n ln σ' := hI
      obtain ⟨l0, e0, hI⟩ := zdR_e (i := 0) (q := 7) hI; subst e0
      obtain ⟨x1, l1, e1, hI⟩ := zdI_e (i := 1) hI; subst e1
      obtain ⟨e, hI⟩ := zdN_e hI; subst e
      exact pX7_followFrame_43  Q QX n x1 σ' hI
    · skip
      have et := Nat.eq_of_beq_eq_true ht; subst et
      have hI : JIX7_followFrame  Q QX 64 n ln σ' := hI
      obtain ⟨l0, e0, hI⟩ := zdR_e (i := 0) (q := 7) hI; subst e0
      obtain ⟨e, hI⟩ := zdN_e hI; subst e
      exact pX7_followFrame_64  Q QX n  σ' hI
  · refine zor ht (fun ht => ?_) (fun ht => ?_)
    · skip
      have et := Nat.eq_of_beq_eq_true ht; subst et
      cases hj
    · skip
      have et := Nat.eq_of_beq_eq_true ht; subst et
      cases hj
def JX7_followGlobal : Nat → Bool := fun t => false && Nat.beq t 0
def jnX7_followGlobal : Nat → Bool := fun t => false && Nat.beq t 0
def hX7_followGlobal : Nat → List Nat := fun t => []
def PX7_followGlobal_0  (Q : Option Value → zS → Prop) (QX : zS → Prop) (a1 : Int32) (a2 : Int64) (σ : zS) : Prop :=
  ((a2 < (0 : Int64) →
    zCT zZC zmX3_demand [.ref 5, .int (0 : Int32)] σ (zQv (fun s1 =>
      Q none s1)) QX) ∧ (¬ a2 < (0 : Int64) →
    ((a2 < ((σ.1 2 12).toInt64) →
      zCT zZC zmX2_typeOfGlobal [.ref 2, .int (a2.toInt32)] σ (zQi (fun r3 s2 =>
        ((a1 = (35 : Int32) →
          zCT zZC zmX3_leave [.ref 5, .int r3] s2 (zQv (fun s4 =>
            Q none s4)) QX) ∧ (¬ a1 = (35 : Int32) →
          zCT zZC zmX2_changesGlobal [.ref 2, .int (a2.toInt32)] s2 (zQi (fun r6 s5 =>
            zCT zZC zmX3_demand [.ref 5, .int r6] s5 (zQv (fun s7 =>
              zCT zZC zmX3_take [.ref 5, .int r3] s7 (zQi (fun r9 s8 =>
                Q none s8)) QX)) QX)) QX)))) QX) ∧ (¬ a2 < ((σ.1 2 12).toInt64) →
      zCT zZC zmX3_demand [.ref 5, .int (0 : Int32)] σ (zQv (fun s10 =>
        Q none s10)) QX))))
def LIX7_followGlobal  : Nat → Nat → zLo → zS → Prop := fun t n l τ => False
def JIX7_followGlobal  (Q : Option Value → zS → Prop) (QX : zS → Prop) : Nat → Option Nat → zLo → zS → Prop := fun t n l τ => False
set_option maxRecDepth 50000 in
theorem pX7_followGlobal_0  (Q : Option Value → zS → Prop) (QX : zS → Prop)  (a1 : Int32) (a2 : Int64) (σ : zS) (h : PX7_followGlobal_0  Q QX a1 a2 σ) : zwp JX7_followGlobal (zB hX7_followGlobal (zKt jnX7_followGlobal (JIX7_followGlobal  Q QX) (LIX7_followGlobal ) none 0)) Q QX kX7_followGlobal 0 (lv_args 0 [.ref 7, .int a1, .long a2]) [] σ := h
set_option maxRecDepth 50000 in
theorem rX7_followGlobal {Q : Option Value → zS → Prop} {QX : zS → Prop} {a1 : Int32} {a2 : Int64} {σ : zS}   (h0 : PX7_followGlobal_0  Q QX a1 a2 σ) : zCT zZC zmX7_followGlobal [.ref 7, .int a1, .long a2] σ Q QX := by
  refine zCT_of zZC_ok pnX7 (Nat.le_of_ble_eq_true rfl) kX7_followGlobal ksX7_followGlobal JX7_followGlobal 1 (fun t ht => ?_) hX7_followGlobal jnX7_followGlobal (JIX7_followGlobal  Q QX) (LIX7_followGlobal ) (fun n t ln σ' ht hj hI => ?_) (fun m t ln σ' ht hj hI => ?_) (pX7_followGlobal_0  Q QX a1 a2 σ h0)
  · cases ht
  · cases ht
  · cases ht
def JX7_followLeap : Nat → Bool := fun t => false && Nat.beq t 0
def jnX7_followLeap : Nat → Bool := fun t => false && Nat.beq t 0
def hX7_followLeap : Nat → List Nat := fun t => []
def PX7_followLeap_0  (Q : Option Value → zS → Prop) (QX : zS → Prop) (a1 : Int32) (a2 : Int64) (σ : zS) : Prop :=
  ((a1 = (15 : Int32) →
    zCT zZC zmX3_bodyResult [.ref 5] σ (zQi (fun r2 s1 =>
      zCT zZC zmX3_take [.ref 5, .int r2] s1 (zQi (fun r4 s3 =>
        zCT zZC zmX3_forget [.ref 5] s3 (zQv (fun s5 =>
          Q none s5)) QX)) QX)) QX) ∧ (¬ a1 = (15 : Int32) →
    zCT zZC zmX3_labelType [.ref 5, .long a2] σ (zQi (fun r7 s6 =>
      ((a1 = (13 : Int32) →
        zCT zZC zmX3_take [.ref 5, .int (127 : Int32)] s6 (zQi (fun r9 s8 =>
          zCT zZC zmX3_take [.ref 5, .int r7] s8 (zQi (fun r11 s10 =>
            zCT zZC zmX3_leave [.ref 5, .int r7] s10 (zQv (fun s12 =>
              Q none s12)) QX)) QX)) QX) ∧ (¬ a1 = (13 : Int32) →
        zCT zZC zmX3_take [.ref 5, .int r7] s6 (zQi (fun r14 s13 =>
          zCT zZC zmX3_forget [.ref 5] s13 (zQv (fun s15 =>
            Q none s15)) QX)) QX)))) QX))
def LIX7_followLeap  : Nat → Nat → zLo → zS → Prop := fun t n l τ => False
def JIX7_followLeap  (Q : Option Value → zS → Prop) (QX : zS → Prop) : Nat → Option Nat → zLo → zS → Prop := fun t n l τ => False
set_option maxRecDepth 50000 in
theorem pX7_followLeap_0  (Q : Option Value → zS → Prop) (QX : zS → Prop)  (a1 : Int32) (a2 : Int64) (σ : zS) (h : PX7_followLeap_0  Q QX a1 a2 σ) : zwp JX7_followLeap (zB hX7_followLeap (zKt jnX7_followLeap (JIX7_followLeap  Q QX) (LIX7_followLeap ) none 0)) Q QX kX7_followLeap 0 (lv_args 0 [.ref 7, .int a1, .long a2]) [] σ := h
set_option maxRecDepth 50000 in
theorem rX7_followLeap {Q : Option Value → zS → Prop} {QX : zS → Prop} {a1 : Int32} {a2 : Int64} {σ : zS}   (h0 : PX7_followLeap_0  Q QX a1 a2 σ) : zCT zZC zmX7_followLeap [.ref 7, .int a1, .long a2] σ Q QX := by
  refine zCT_of zZC_ok pnX7 (Nat.le_of_ble_eq_true rfl) kX7_followLeap ksX7_followLeap JX7_followLeap 1 (fun t ht => ?_) hX7_followLeap jnX7_followLeap (JIX7_followLeap  Q QX) (LIX7_followLeap ) (fun n t ln σ' ht hj hI => ?_) (fun m t ln σ' ht hj hI => ?_) (pX7_followLeap_0  Q QX a1 a2 σ h0)
  · cases ht
  · cases ht
  · cases ht
def JX7_followLocal : Nat → Bool := fun t => false && Nat.beq t 0
def jnX7_followLocal : Nat → Bool := fun t => false && Nat.beq t 0
def hX7_followLocal : Nat → List Nat := fun t => []
def PX7_followLocal_0  (Q : Option Value → zS → Prop) (QX : zS → Prop) (a1 : Int32) (a2 : Int64) (σ : zS) : Prop :=
  ((a2 < (0 : Int64) →
    zCT zZC zmX3_demand [.ref 5, .int (0 : Int32)] σ (zQv (fun s1 =>
      Q none s1)) QX) ∧ (¬ a2 < (0 : Int64) →
    ((((σ.1 7 3).toInt64) ≤ a2 →
      zCT zZC zmX3_demand [.ref 5, .int (0 : Int32)] σ (zQv (fun s2 =>
        Q none s2)) QX) ∧ (¬ ((σ.1 7 3).toInt64) ≤ a2 →
      ((a2 < ((nI 80).toInt64) →
        vp_in (a2.toInt32) 80 ∧
        ((a1 = (32 : Int32) →
          ((a1 = (33 : Int32) →
            Q none σ) ∧ (¬ a1 = (33 : Int32) →
            zCT zZC zmX3_leave [.ref 5, .int (σ.1 27 (a2.toInt32).toNatClampNeg)] σ (zQv (fun s3 =>
              Q none s3)) QX))) ∧ (¬ a1 = (32 : Int32) →
          zCT zZC zmX3_take [.ref 5, .int (σ.1 27 (a2.toInt32).toNatClampNeg)] σ (zQi (fun r5 s4 =>
            ((a1 = (33 : Int32) →
              Q none s4) ∧ (¬ a1 = (33 : Int32) →
              zCT zZC zmX3_leave [.ref 5, .int (σ.1 27 (a2.toInt32).toNatClampNeg)] s4 (zQv (fun s6 =>
                Q none s6)) QX)))) QX))) ∧ (¬ a2 < ((nI 80).toInt64) →
        zCT zZC zmX3_demand [.ref 5, .int (0 : Int32)] σ (zQv (fun s7 =>
          Q none s7)) QX))))))
def LIX7_followLocal  : Nat → Nat → zLo → zS → Prop := fun t n l τ => False
def JIX7_followLocal  (Q : Option Value → zS → Prop) (QX : zS → Prop) : Nat → Option Nat → zLo → zS → Prop := fun t n l τ => False
set_option maxRecDepth 50000 in
theorem pX7_followLocal_0  (Q : Option Value → zS → Prop) (QX : zS → Prop)  (a1 : Int32) (a2 : Int64) (σ : zS) (h : PX7_followLocal_0  Q QX a1 a2 σ) : zwp JX7_followLocal (zB hX7_followLocal (zKt jnX7_followLocal (JIX7_followLocal  Q QX) (LIX7_followLocal ) none 0)) Q QX kX7_followLocal 0 (lv_args 0 [.ref 7, .int a1, .long a2]) [] σ := h
set_option maxRecDepth 50000 in
theorem rX7_followLocal {Q : Option Value → zS → Prop} {QX : zS → Prop} {a1 : Int32} {a2 : Int64} {σ : zS}   (h0 : PX7_followLocal_0  Q QX a1 a2 σ) : zCT zZC zmX7_followLocal [.ref 7, .int a1, .long a2] σ Q QX := by
  refine zCT_of zZC_ok pnX7 (Nat.le_of_ble_eq_true rfl) kX7_followLocal ksX7_followLocal JX7_followLocal 1 (fun t ht => ?_) hX7_followLocal jnX7_followLocal (JIX7_followLocal  Q QX) (LIX7_followLocal ) (fun n t ln σ' ht hj hI => ?_) (fun m t ln σ' ht hj hI => ?_) (pX7_followLocal_0  Q QX a1 a2 σ h0)
  · cases ht
  · cases ht
  · cases ht
def JX7_followLonger : Nat → Bool := fun t => Nat.beq t 14 || Nat.beq t 38 || Nat.beq t 52 || Nat.beq t 80 || Nat.beq t 101 || Nat.beq t 123 || Nat.beq t 137 || Nat.beq t 159
def jnX7_followLonger : Nat → Bool := fun t => Nat.beq t 14 || Nat.beq t 38 || Nat.beq t 52 || Nat.beq t 80 || Nat.beq t 101 || Nat.beq t 123 || Nat.beq t 137 || Nat.beq t 159
def hX7_followLonger : Nat → List Nat := fun t => bif Nat.beq t 14 then [0, 1, 2] else bif Nat.beq t 38 then [0, 1, 2] else bif Nat.beq t 52 then [0, 1, 2] else bif Nat.beq t 80 then [0, 1] else bif Nat.beq t 101 then [0, 1] else bif Nat.beq t 123 then [0, 1] else bif Nat.beq t 137 then [0, 1] else bif Nat.beq t 159 then [0, 1] else []
def PX7_followLonger_159  (Q : Option Value → zS → Prop) (QX : zS → Prop) (x1 : Int32) (σ : zS) : Prop :=
  ((x1 = (265 : Int32) →
    Q none σ) ∧ (¬ x1 = (265 : Int32) →
    ((x1 = (269 : Int32) →
      Q none σ) ∧ (¬ x1 = (269 : Int32) →
      zCT zZC zmX3_take [.ref 5, .int (127 : Int32)] σ (zQi (fun r2 s1 =>
        zCT zZC zmX3_take [.ref 5, .int (127 : Int32)] s1 (zQi (fun r4 s3 =>
          zCT zZC zmX3_take [.ref 5, .int (127 : Int32)] s3 (zQi (fun r6 s5 =>
            Q none s5)) QX)) QX)) QX))))
def PX7_followLonger_137  (Q : Option Value → zS → Prop) (QX : zS → Prop) (x1 : Int32) (σ : zS) : Prop :=
  (((σ.1 2 10) ≤ 0 →
    zCT zZC zmX3_demand [.ref 5, .int (0 : Int32)] σ (zQv (fun s1 =>
      PX7_followLonger_159 Q QX x1 s1)) QX) ∧ (¬ (σ.1 2 10) ≤ 0 →
    zCT zZC zmX3_demand [.ref 5, .int (1 : Int32)] σ (zQv (fun s2 =>
      PX7_followLonger_159 Q QX x1 s2)) QX))
def PX7_followLonger_123  (Q : Option Value → zS → Prop) (QX : zS → Prop) (x1 : Int32) (σ : zS) : Prop :=
  ((x1 = (268 : Int32) →
    PX7_followLonger_137 Q QX x1 σ) ∧ (¬ x1 = (268 : Int32) →
    ((x1 = (270 : Int32) →
      PX7_followLonger_137 Q QX x1 σ) ∧ (¬ x1 = (270 : Int32) →
      PX7_followLonger_159 Q QX x1 σ))))
def PX7_followLonger_101  (Q : Option Value → zS → Prop) (QX : zS → Prop) (x1 : Int32) (σ : zS) : Prop :=
  (((σ.1 2 11) ≤ 0 →
    zCT zZC zmX3_demand [.ref 5, .int (0 : Int32)] σ (zQv (fun s1 =>
      PX7_followLonger_123 Q QX x1 s1)) QX) ∧ (¬ (σ.1 2 11) ≤ 0 →
    zCT zZC zmX3_demand [.ref 5, .int (1 : Int32)] σ (zQv (fun s2 =>
      PX7_followLonger_123 Q QX x1 s2)) QX))
def PX7_followLonger_80  (Q : Option Value → zS → Prop) (QX : zS → Prop) (x1 : Int32) (σ : zS) : Prop :=
  ((x1 = (264 : Int32) →
    PX7_followLonger_101 Q QX x1 σ) ∧ (¬ x1 = (264 : Int32) →
    ((x1 = (266 : Int32) →
      PX7_followLonger_101 Q QX x1 σ) ∧ (¬ x1 = (266 : Int32) →
      ((x1 = (267 : Int32) →
        PX7_followLonger_101 Q QX x1 σ) ∧ (¬ x1 = (267 : Int32) →
        PX7_followLonger_123 Q QX x1 σ))))))
def PX7_followLonger_52  (Q : Option Value → zS → Prop) (QX : zS → Prop) (x1 : Int32) (x2 : Int64) (σ : zS) : Prop :=
  vp_in (9 : Int32) 13 ∧
  ((((σ.1 18 (9 : Int32).toNatClampNeg).toInt64) ≤ x2 →
    zCT zZC zmX3_demand [.ref 5, .int (0 : Int32)] σ (zQv (fun s1 =>
      PX7_followLonger_80 Q QX x1 s1)) QX) ∧ (¬ ((σ.1 18 (9 : Int32).toNatClampNeg).toInt64) ≤ x2 →
    zCT zZC zmX3_demand [.ref 5, .int (1 : Int32)] σ (zQv (fun s2 =>
      PX7_followLonger_80 Q QX x1 s2)) QX))
def PX7_followLonger_38  (Q : Option Value → zS → Prop) (QX : zS → Prop) (x1 : Int32) (x2 : Int64) (σ : zS) : Prop :=
  ((x1 = (268 : Int32) →
    PX7_followLonger_52 Q QX x1 x2 σ) ∧ (¬ x1 = (268 : Int32) →
    ((x1 = (269 : Int32) →
      PX7_followLonger_52 Q QX x1 x2 σ) ∧ (¬ x1 = (269 : Int32) →
      PX7_followLonger_80 Q QX x1 σ))))
def PX7_followLonger_14  (Q : Option Value → zS → Prop) (QX : zS → Prop) (x1 : Int32) (x2 : Int64) (σ : zS) : Prop :=
  (((σ.2 2 14) ≤ x2 →
    zCT zZC zmX3_demand [.ref 5, .int (0 : Int32)] σ (zQv (fun s1 =>
      PX7_followLonger_38 Q QX x1 x2 s1)) QX) ∧ (¬ (σ.2 2 14) ≤ x2 →
    zCT zZC zmX3_demand [.ref 5, .int (1 : Int32)] σ (zQv (fun s2 =>
      PX7_followLonger_38 Q QX x1 x2 s2)) QX))
def PX7_followLonger_0  (Q : Option Value → zS → Prop) (QX : zS → Prop) (a1 : Int32) (a2 : Int64) (σ : zS) : Prop :=
  ((a1 = (264 : Int32) →
    PX7_followLonger_14 Q QX a1 a2 σ) ∧ (¬ a1 = (264 : Int32) →
    ((a1 = (265 : Int32) →
      PX7_followLonger_14 Q QX a1 a2 σ) ∧ (¬ a1 = (265 : Int32) →
      PX7_followLonger_38 Q QX a1 a2 σ))))
def LIX7_followLonger  : Nat → Nat → zLo → zS → Prop := fun t n l τ => False
def JIX7_followLonger  (Q : Option Value → zS → Prop) (QX : zS → Prop) : Nat → Option Nat → zLo → zS → Prop := fun t n l τ => bif Nat.beq t 14 then zdR 0 7 (zdI 1 (fun x1 => zdL 2 (fun x2 => zdN (PX7_followLonger_14  Q QX x1 x2 τ)))) l else bif Nat.beq t 38 then zdR 0 7 (zdI 1 (fun x1 => zdL 2 (fun x2 => zdN (PX7_followLonger_38  Q QX x1 x2 τ)))) l else bif Nat.beq t 52 then zdR 0 7 (zdI 1 (fun x1 => zdL 2 (fun x2 => zdN (PX7_followLonger_52  Q QX x1 x2 τ)))) l else bif Nat.beq t 80 then zdR 0 7 (zdI 1 (fun x1 => zdN (PX7_followLonger_80  Q QX x1 τ))) l else bif Nat.beq t 101 then zdR 0 7 (zdI 1 (fun x1 => zdN (PX7_followLonger_101  Q QX x1 τ))) l else bif Nat.beq t 123 then zdR 0 7 (zdI 1 (fun x1 => zdN (PX7_followLonger_123  Q QX x1 τ))) l else bif Nat.beq t 137 then zdR 0 7 (zdI 1 (fun x1 => zdN (PX7_followLonger_137  Q QX x1 τ))) l else bif Nat.beq t 159 then zdR 0 7 (zdI 1 (fun x1 => zdN (PX7_followLonger_159  Q QX x1 τ))) l else False
set_option maxRecDepth 50000 in
theorem pX7_followLonger_0  (Q : Option Value → zS → Prop) (QX : zS → Prop)  (a1 : Int32) (a2 : Int64) (σ : zS) (h : PX7_followLonger_0  Q QX a1 a2 σ) : zwp JX7_followLonger (zB hX7_followLonger (zKt jnX7_followLonger (JIX7_followLonger  Q QX) (LIX7_followLonger ) none 0)) Q QX kX7_followLonger 0 (lv_args 0 [.ref 7, .int a1, .long a2]) [] σ := h
set_option maxRecDepth 50000 in
theorem pX7_followLonger_14  (Q : Option Value → zS → Prop) (QX : zS → Prop) (n : Option Nat) (x1 : Int32) (x2 : Int64) (σ : zS) (h : PX7_followLonger_14  Q QX x1 x2 σ) : zwp JX7_followLonger (zB hX7_followLonger (zKt jnX7_followLonger (JIX7_followLonger  Q QX) (LIX7_followLonger ) n 14)) Q QX kX7_followLonger 14 [(0, .ref 7), (1, .int x1), (2, .long x2)] [] σ := h
set_option maxRecDepth 50000 in
theorem pX7_followLonger_38  (Q : Option Value → zS → Prop) (QX : zS → Prop) (n : Option Nat) (x1 : Int32) (x2 : Int64) (σ : zS) (h : PX7_followLonger_38  Q QX x1 x2 σ) : zwp JX7_followLonger (zB hX7_followLonger (zKt jnX7_followLonger (JIX7_followLonger  Q QX) (LIX7_followLonger ) n 38)) Q QX kX7_followLonger 38 [(0, .ref 7), (1, .int x1), (2, .long x2)] [] σ := h
set_option maxRecDepth 50000 in
theorem pX7_followLonger_52  (Q : Option Value → zS → Prop) (QX : zS → Prop) (n : Option Nat) (x1 : Int32) (x2 : Int64) (σ : zS) (h : PX7_followLonger_52  Q QX x1 x2 σ) : zwp JX7_followLonger (zB hX7_followLonger (zKt jnX7_followLonger (JIX7_followLonger  Q QX) (LIX7_followLonger ) n 52)) Q QX kX7_followLonger 52 [(0, .ref 7), (1, .int x1), (2, .long x2)] [] σ := h
set_option maxRecDepth 50000 in
theorem pX7_followLonger_80  (Q : Option Value → zS → Prop) (QX : zS → Prop) (n : Option Nat) (x1 : Int32) (σ : zS) (h : PX7_followLonger_80  Q QX x1 σ) : zwp JX7_followLonger (zB hX7_followLonger (zKt jnX7_followLonger (JIX7_followLonger  Q QX) (LIX7_followLonger ) n 80)) Q QX kX7_followLonger 80 [(0, .ref 7), (1, .int x1)] [] σ := h
set_option maxRecDepth 50000 in
theorem pX7_followLonger_101  (Q : Option Value → zS → Prop) (QX : zS → Prop) (n : Option Nat) (x1 : Int32) (σ : zS) (h : PX7_followLonger_101  Q QX x1 σ) : zwp JX7_followLonger (zB hX7_followLonger (zKt jnX7_followLonger (JIX7_followLonger  Q QX) (LIX7_followLonger ) n 101)) Q QX kX7_followLonger 101 [(0, .ref 7), (1, .int x1)] [] σ := h
set_option maxRecDepth 50000 in
theorem pX7_followLonger_123  (Q : Option Value → zS → Prop) (QX : zS → Prop) (n : Option Nat) (x1 : Int32) (σ : zS) (h : PX7_followLonger_123  Q QX x1 σ) : zwp JX7_followLonger (zB hX7_followLonger (zKt jnX7_followLonger (JIX7_followLonger  Q QX) (LIX7_followLonger ) n 123)) Q QX kX7_followLonger 123 [(0, .ref 7), (1, .int x1)] [] σ := h
set_option maxRecDepth 50000 in
theorem pX7_followLonger_137  (Q : Option Value → zS → Prop) (QX : zS → Prop) (n : Option Nat) (x1 : Int32) (σ : zS) (h : PX7_followLonger_137  Q QX x1 σ) : zwp JX7_followLonger (zB hX7_followLonger (zKt jnX7_followLonger (JIX7_followLonger  Q QX) (LIX7_followLonger ) n 137)) Q QX kX7_followLonger 137 [(0, .ref 7), (1, .int x1)] [] σ := h
set_option maxRecDepth 50000 in
theorem pX7_followLonger_159  (Q : Option Value → zS → Prop) (QX : zS → Prop) (n : Option Nat) (x1 : Int32) (σ : zS) (h : PX7_followLonger_159  Q QX x1 σ) : zwp JX7_followLonger (zB hX7_followLonger (zKt jnX7_followLonger (JIX7_followLonger  Q QX) (LIX7_followLonger ) n 159)) Q QX kX7_followLonger 159 [(0, .ref 7), (1, .int x1)] [] σ := h
set_option maxRecDepth 50000 in
theorem rX7_followLonger {Q : Option Value → zS → Prop} {QX : zS → Prop} {a1 : Int32} {a2 : Int64} {σ : zS}   (h0 : PX7_followLonger_0  Q QX a1 a2 σ) : zCT zZC zmX7_followLonger [.ref 7, .int a1, .long a2] σ Q QX := by
  refine zCT_of zZC_ok pnX7 (Nat.le_of_ble_eq_true rfl) kX7_followLonger ksX7_followLonger JX7_followLonger 160 (fun t ht => ?_) hX7_followLonger jnX7_followLonger (JIX7_followLonger  Q QX) (LIX7_followLonger ) (fun n t ln σ' ht hj hI => ?_) (fun m t ln σ' ht hj hI => ?_) (pX7_followLonger_0  Q QX a1 a2 σ h0)
  · refine zor ht (fun ht => ?_) (fun ht => ?_)
    · skip
      refine zor ht (fun ht => ?_) (fun ht => ?_)
      · skip
        refine zor ht (fun ht => ?_) (fun ht => ?_)
        · skip
          refine zor ht (fun ht => ?_) (fun ht => ?_)
          · skip
            refine zor ht (fun ht => ?_) (fun ht => ?_)
            · skip
              refine zor ht (fun ht => ?_) (fun ht => ?_)
              · skip
                refine zor ht (fun ht => ?_) (fun ht => ?_)
                · skip
                  have et := Nat.eq_of_beq_eq_true ht; subst et
                  exact Nat.le_of_ble_eq_true rfl
                · skip
                  have et := Nat.eq_of_beq_eq_true ht; subst et
                  exact Nat.le_of_ble_eq_true rfl
              · skip
                have et := Nat.eq_of_beq_eq_true ht; subst et
                exact Nat.le_of_ble_eq_true rfl
            · skip
              have et := Nat.eq_of_beq_eq_true ht; subst et
              exact Nat.le_of_ble_eq_true rfl
          · skip
            have et := Nat.eq_of_beq_eq_true ht; subst et
            exact Nat.le_of_ble_eq_true rfl
        · skip
          have et := Nat.eq_of_beq_eq_true ht; subst et
          exact Nat.le_of_ble_eq_true rfl
      · skip
        have et := Nat.eq_of_beq_eq_true ht; subst et
        exact Nat.le_of_ble_eq_true rfl
    · skip
      have et := Nat.eq_of_beq_eq_true ht; subst et
      exact Nat.le_of_ble_eq_true rfl
  · refine zor ht (fun ht => ?_) (fun ht => ?_)
    · skip
      refine zor ht (fun ht => ?_) (fun ht => ?_)
      · skip
        refine zor ht (fun ht => ?_) (fun ht => ?_)
        · skip
          refine zor ht (fun ht => ?_) (fun ht => ?_)
          · skip
            refine zor ht (fun ht => ?_) (fun ht => ?_)
            · skip
              refine zor ht (fun ht => ?_) (fun ht => ?_)
              · skip
                refine zor ht (fun ht => ?_) (fun ht => ?_)
                · skip
                  have et := Nat.eq_of_beq_eq_true ht; subst et
                  have hI : JIX7_followLonger  Q QX 14 n ln σ' := hI
                  obtain ⟨l0, e0, hI⟩ := zdR_e (i := 0) (q := 7) hI; subst e0
                  obtain ⟨x1, l1, e1, hI⟩ := zdI_e (i := 1) hI; subst e1
                  obtain ⟨x2, l2, e2, hI⟩ := zdL_e (i := 2) hI; subst e2
                  obtain ⟨e, hI⟩ := zdN_e hI; subst e
                  exact pX7_followLonger_14  Q QX n x1 x2 σ' hI
                · skip
                  have et := Nat.eq_of_beq_eq_true ht; subst et
                  have hI : JIX7_followLonger  Q QX 38 n ln σ' := hI
                  obtain ⟨l0, e0, hI⟩ := zdR_e (i := 0) (q := 7) hI; subst e0
                  obtain ⟨x1, l1, e1, hI⟩ := zdI_e (i := 1) hI; subst e1
                  obtain ⟨x2, l2, e2, hI⟩ := zdL_e (i := 2) hI; subst e2
                  obtain ⟨e, hI⟩ := zdN_e hI; subst e
                  exact pX7_followLonger_38  Q QX n x1 x2 σ' hI
              · skip
                have et := Nat.eq_of_beq_eq_true ht; subst et
                have hI : JIX7_followLonger  Q QX 52 n ln σ' := hI
                obtain ⟨l0, e0, hI⟩ := zdR_e (i := 0) (q := 7) hI; subst e0
                obtain ⟨x1, l1, e1, hI⟩ := zdI_e (i := 1) hI; subst e1
                obtain ⟨x2, l2, e2, hI⟩ := zdL_e (i := 2) hI; subst e2
                obtain ⟨e, hI⟩ := zdN_e hI; subst e
                exact pX7_followLonger_52  Q QX n x1 x2 σ' hI
            · skip
              have et := Nat.eq_of_beq_eq_true ht; subst et
              have hI : JIX7_followLonger  Q QX 80 n ln σ' := hI
              obtain ⟨l0, e0, hI⟩ := zdR_e (i := 0) (q := 7) hI; subst e0
              obtain ⟨x1, l1, e1, hI⟩ := zdI_e (i := 1) hI; subst e1
              obtain ⟨e, hI⟩ := zdN_e hI; subst e
              exact pX7_followLonger_80  Q QX n x1 σ' hI
          · skip
            have et := Nat.eq_of_beq_eq_true ht; subst et
            have hI : JIX7_followLonger  Q QX 101 n ln σ' := hI
            obtain ⟨l0, e0, hI⟩ := zdR_e (i := 0) (q := 7) hI; subst e0
            obtain ⟨x1, l1, e1, hI⟩ := zdI_e (i := 1) hI; subst e1
            obtain ⟨e, hI⟩ := zdN_e hI; subst e
            exact pX7_followLonger_101  Q QX n x1 σ' hI
        · skip
          have et := Nat.eq_of_beq_eq_true ht; subst et
          have hI : JIX7_followLonger  Q QX 123 n ln σ' := hI
          obtain ⟨l0, e0, hI⟩ := zdR_e (i := 0) (q := 7) hI; subst e0
          obtain ⟨x1, l1, e1, hI⟩ := zdI_e (i := 1) hI; subst e1
          obtain ⟨e, hI⟩ := zdN_e hI; subst e
          exact pX7_followLonger_123  Q QX n x1 σ' hI
      · skip
        have et := Nat.eq_of_beq_eq_true ht; subst et
        have hI : JIX7_followLonger  Q QX 137 n ln σ' := hI
        obtain ⟨l0, e0, hI⟩ := zdR_e (i := 0) (q := 7) hI; subst e0
        obtain ⟨x1, l1, e1, hI⟩ := zdI_e (i := 1) hI; subst e1
        obtain ⟨e, hI⟩ := zdN_e hI; subst e
        exact pX7_followLonger_137  Q QX n x1 σ' hI
    · skip
      have et := Nat.eq_of_beq_eq_true ht; subst et
      have hI : JIX7_followLonger  Q QX 159 n ln σ' := hI
      obtain ⟨l0, e0, hI⟩ := zdR_e (i := 0) (q := 7) hI; subst e0
      obtain ⟨x1, l1, e1, hI⟩ := zdI_e (i := 1) hI; subst e1
      obtain ⟨e, hI⟩ := zdN_e hI; subst e
      exact pX7_followLonger_159  Q QX n x1 σ' hI
  · refine zor ht (fun ht => ?_) (fun ht => ?_)
    · skip
      refine zor ht (fun ht => ?_) (fun ht => ?_)
      · skip
        refine zor ht (fun ht => ?_) (fun ht => ?_)
        · skip
          refine zor ht (fun ht => ?_) (fun ht => ?_)
          · skip
            refine zor ht (fun ht => ?_) (fun ht => ?_)
            · skip
              refine zor ht (fun ht => ?_) (fun ht => ?_)
              · skip
                refine zor ht (fun ht => ?_) (fun ht => ?_)
                · skip
                  have et := Nat.eq_of_beq_eq_true ht; subst et
                  cases hj
                · skip
                  have et := Nat.eq_of_beq_eq_true ht; subst et
                  cases hj
              · skip
                have et := Nat.eq_of_beq_eq_true ht; subst et
                cases hj
            · skip
              have et := Nat.eq_of_beq_eq_true ht; subst et
              cases hj
          · skip
            have et := Nat.eq_of_beq_eq_true ht; subst et
            cases hj
        · skip
          have et := Nat.eq_of_beq_eq_true ht; subst et
          cases hj
      · skip
        have et := Nat.eq_of_beq_eq_true ht; subst et
        cases hj
    · skip
      have et := Nat.eq_of_beq_eq_true ht; subst et
      cases hj
def JX7_followPlain : Nat → Bool := fun t => false && Nat.beq t 0
def jnX7_followPlain : Nat → Bool := fun t => false && Nat.beq t 0
def hX7_followPlain : Nat → List Nat := fun t => []
def PX7_followPlain_0  (Q : Option Value → zS → Prop) (QX : zS → Prop) (a1 : Int32) (σ : zS) : Prop :=
  ((a1 = (65 : Int32) →
    zCT zZC zmX3_leave [.ref 5, .int (127 : Int32)] σ (zQv (fun s1 =>
      Q none s1)) QX) ∧ (¬ a1 = (65 : Int32) →
    ((a1 = (66 : Int32) →
      zCT zZC zmX3_leave [.ref 5, .int (126 : Int32)] σ (zQv (fun s2 =>
        Q none s2)) QX) ∧ (¬ a1 = (66 : Int32) →
      zCT zZC zmX7_takesLong [.int a1] σ (zQi (fun r4 s3 =>
        ((r4 = 0 →
          zCT zZC zmX3_take [.ref 5, .int (127 : Int32)] s3 (zQi (fun r6 s5 =>
            zCT zZC zmX7_takesTwo [.int a1] s5 (zQi (fun r8 s7 =>
              ((r8 = 0 →
                zCT zZC zmX7_leavesLong [.int a1] s7 (zQi (fun r10 s9 =>
                  ((r10 = 0 →
                    zCT zZC zmX3_leave [.ref 5, .int (127 : Int32)] s9 (zQv (fun s11 =>
                      Q none s11)) QX) ∧ (¬ r10 = 0 →
                    zCT zZC zmX3_leave [.ref 5, .int (126 : Int32)] s9 (zQv (fun s12 =>
                      Q none s12)) QX)))) QX) ∧ (¬ r8 = 0 →
                zCT zZC zmX3_take [.ref 5, .int (127 : Int32)] s7 (zQi (fun r14 s13 =>
                  zCT zZC zmX7_leavesLong [.int a1] s13 (zQi (fun r16 s15 =>
                    ((r16 = 0 →
                      zCT zZC zmX3_leave [.ref 5, .int (127 : Int32)] s15 (zQv (fun s17 =>
                        Q none s17)) QX) ∧ (¬ r16 = 0 →
                      zCT zZC zmX3_leave [.ref 5, .int (126 : Int32)] s15 (zQv (fun s18 =>
                        Q none s18)) QX)))) QX)) QX)))) QX)) QX) ∧ (¬ r4 = 0 →
          zCT zZC zmX3_take [.ref 5, .int (126 : Int32)] s3 (zQi (fun r20 s19 =>
            zCT zZC zmX7_takesTwo [.int a1] s19 (zQi (fun r22 s21 =>
              ((r22 = 0 →
                zCT zZC zmX7_leavesLong [.int a1] s21 (zQi (fun r24 s23 =>
                  ((r24 = 0 →
                    zCT zZC zmX3_leave [.ref 5, .int (127 : Int32)] s23 (zQv (fun s25 =>
                      Q none s25)) QX) ∧ (¬ r24 = 0 →
                    zCT zZC zmX3_leave [.ref 5, .int (126 : Int32)] s23 (zQv (fun s26 =>
                      Q none s26)) QX)))) QX) ∧ (¬ r22 = 0 →
                zCT zZC zmX3_take [.ref 5, .int (126 : Int32)] s21 (zQi (fun r28 s27 =>
                  zCT zZC zmX7_leavesLong [.int a1] s27 (zQi (fun r30 s29 =>
                    ((r30 = 0 →
                      zCT zZC zmX3_leave [.ref 5, .int (127 : Int32)] s29 (zQv (fun s31 =>
                        Q none s31)) QX) ∧ (¬ r30 = 0 →
                      zCT zZC zmX3_leave [.ref 5, .int (126 : Int32)] s29 (zQv (fun s32 =>
                        Q none s32)) QX)))) QX)) QX)))) QX)) QX)))) QX))))
def LIX7_followPlain  : Nat → Nat → zLo → zS → Prop := fun t n l τ => False
def JIX7_followPlain  (Q : Option Value → zS → Prop) (QX : zS → Prop) : Nat → Option Nat → zLo → zS → Prop := fun t n l τ => False
set_option maxRecDepth 50000 in
theorem pX7_followPlain_0  (Q : Option Value → zS → Prop) (QX : zS → Prop)  (a1 : Int32) (σ : zS) (h : PX7_followPlain_0  Q QX a1 σ) : zwp JX7_followPlain (zB hX7_followPlain (zKt jnX7_followPlain (JIX7_followPlain  Q QX) (LIX7_followPlain ) none 0)) Q QX kX7_followPlain 0 (lv_args 0 [.ref 7, .int a1]) [] σ := h
set_option maxRecDepth 50000 in
theorem rX7_followPlain {Q : Option Value → zS → Prop} {QX : zS → Prop} {a1 : Int32} {σ : zS}   (h0 : PX7_followPlain_0  Q QX a1 σ) : zCT zZC zmX7_followPlain [.ref 7, .int a1] σ Q QX := by
  refine zCT_of zZC_ok pnX7 (Nat.le_of_ble_eq_true rfl) kX7_followPlain ksX7_followPlain JX7_followPlain 1 (fun t ht => ?_) hX7_followPlain jnX7_followPlain (JIX7_followPlain  Q QX) (LIX7_followPlain ) (fun n t ln σ' ht hj hI => ?_) (fun m t ln σ' ht hj hI => ?_) (pX7_followPlain_0  Q QX a1 σ h0)
  · cases ht
  · cases ht
  · cases ht
def JX7_followSize : Nat → Bool := fun t => false && Nat.beq t 0
def jnX7_followSize : Nat → Bool := fun t => false && Nat.beq t 0
def hX7_followSize : Nat → List Nat := fun t => []
def PX7_followSize_0  (Q : Option Value → zS → Prop) (QX : zS → Prop) (a1 : Int32) (σ : zS) : Prop :=
  (((σ.1 2 11) ≤ 0 →
    zCT zZC zmX3_demand [.ref 5, .int (0 : Int32)] σ (zQv (fun s1 =>
      ((a1 = (64 : Int32) →
        zCT zZC zmX3_take [.ref 5, .int (127 : Int32)] s1 (zQi (fun r3 s2 =>
          zCT zZC zmX3_leave [.ref 5, .int (127 : Int32)] s2 (zQv (fun s4 =>
            Q none s4)) QX)) QX) ∧ (¬ a1 = (64 : Int32) →
        zCT zZC zmX3_leave [.ref 5, .int (127 : Int32)] s1 (zQv (fun s5 =>
          Q none s5)) QX)))) QX) ∧ (¬ (σ.1 2 11) ≤ 0 →
    zCT zZC zmX3_demand [.ref 5, .int (1 : Int32)] σ (zQv (fun s6 =>
      ((a1 = (64 : Int32) →
        zCT zZC zmX3_take [.ref 5, .int (127 : Int32)] s6 (zQi (fun r8 s7 =>
          zCT zZC zmX3_leave [.ref 5, .int (127 : Int32)] s7 (zQv (fun s9 =>
            Q none s9)) QX)) QX) ∧ (¬ a1 = (64 : Int32) →
        zCT zZC zmX3_leave [.ref 5, .int (127 : Int32)] s6 (zQv (fun s10 =>
          Q none s10)) QX)))) QX))
def LIX7_followSize  : Nat → Nat → zLo → zS → Prop := fun t n l τ => False
def JIX7_followSize  (Q : Option Value → zS → Prop) (QX : zS → Prop) : Nat → Option Nat → zLo → zS → Prop := fun t n l τ => False
set_option maxRecDepth 50000 in
theorem pX7_followSize_0  (Q : Option Value → zS → Prop) (QX : zS → Prop)  (a1 : Int32) (σ : zS) (h : PX7_followSize_0  Q QX a1 σ) : zwp JX7_followSize (zB hX7_followSize (zKt jnX7_followSize (JIX7_followSize  Q QX) (LIX7_followSize ) none 0)) Q QX kX7_followSize 0 (lv_args 0 [.ref 7, .int a1]) [] σ := h
set_option maxRecDepth 50000 in
theorem rX7_followSize {Q : Option Value → zS → Prop} {QX : zS → Prop} {a1 : Int32} {σ : zS}   (h0 : PX7_followSize_0  Q QX a1 σ) : zCT zZC zmX7_followSize [.ref 7, .int a1] σ Q QX := by
  refine zCT_of zZC_ok pnX7 (Nat.le_of_ble_eq_true rfl) kX7_followSize ksX7_followSize JX7_followSize 1 (fun t ht => ?_) hX7_followSize jnX7_followSize (JIX7_followSize  Q QX) (LIX7_followSize ) (fun n t ln σ' ht hj hI => ?_) (fun m t ln σ' ht hj hI => ?_) (pX7_followSize_0  Q QX a1 σ h0)
  · cases ht
  · cases ht
  · cases ht
def JX7_followTable : Nat → Bool := fun t => Nat.beq t 15
def jnX7_followTable : Nat → Bool := fun t => false && Nat.beq t 0
def hX7_followTable : Nat → List Nat := fun t => bif Nat.beq t 15 then [0, 1, 2, 3] else []
def PX7_followTable_15 (K15 : Int32 → Int32 → zS → Prop) (Q : Option Value → zS → Prop) (QX : zS → Prop) (x2 : Int32) (x3 : Int32) (σ : zS) : Prop :=
  (((σ.1 6 1) ≤ x3 →
    zCT zZC zmX3_take [.ref 5, .int x2] σ (zQi (fun r2 s1 =>
      zCT zZC zmX3_forget [.ref 5] s1 (zQv (fun s3 =>
        Q none s3)) QX)) QX) ∧ (¬ (σ.1 6 1) ≤ x3 →
    (((nI 257) ≤ x3 →
      zCT zZC zmX3_take [.ref 5, .int x2] σ (zQi (fun r5 s4 =>
        zCT zZC zmX3_forget [.ref 5] s4 (zQv (fun s6 =>
          Q none s6)) QX)) QX) ∧ (¬ (nI 257) ≤ x3 →
      vp_in x3 257 ∧
      zCT zZC zmX3_labelType [.ref 5, .long (σ.2 26 x3.toNatClampNeg)] σ (zQi (fun r8 s7 =>
        ((x3 = 0 →
          zCT zZC zmX3_demand [.ref 5, .int (1 : Int32)] s7 (zQv (fun s9 =>
            K15 r8 (x3 + 1) s9)) QX) ∧ (¬ x3 = 0 →
          ((r8 = x2 →
            zCT zZC zmX3_demand [.ref 5, .int (1 : Int32)] s7 (zQv (fun s10 =>
              K15 r8 (x3 + 1) s10)) QX) ∧ (¬ r8 = x2 →
            zCT zZC zmX3_demand [.ref 5, .int (0 : Int32)] s7 (zQv (fun s11 =>
              K15 r8 (x3 + 1) s11)) QX)))))) QX))))
def PX7_followTable_0 (K15 : Int32 → Int32 → zS → Prop) (Q : Option Value → zS → Prop) (QX : zS → Prop)  (σ : zS) : Prop :=
  zCT zZC zmX3_take [.ref 5, .int (127 : Int32)] σ (zQi (fun r2 s1 =>
    K15 (64 : Int32) (0 : Int32) s1)) QX
def LIX7_followTable (I15 : Nat → Int32 → Int32 → zS → Prop) : Nat → Nat → zLo → zS → Prop := fun t n l τ => bif Nat.beq t 15 then zdR 0 7 (zdR 1 6 (zdI 2 (fun x2 => zdI 3 (fun x3 => zdN (I15 n x2 x3 τ))))) l else False
def JIX7_followTable (I15 : Nat → Int32 → Int32 → zS → Prop) (Q : Option Value → zS → Prop) (QX : zS → Prop) : Nat → Option Nat → zLo → zS → Prop := fun t n l τ => False
set_option maxRecDepth 50000 in
theorem pX7_followTable_0 (I15 : Nat → Int32 → Int32 → zS → Prop) (Q : Option Value → zS → Prop) (QX : zS → Prop)   (σ : zS) (h : PX7_followTable_0 (fun y2 y3 τ => ∃ n', zlt n' none ∧ I15 n' y2 y3 τ) Q QX  σ) : zwp JX7_followTable (zB hX7_followTable (zKt jnX7_followTable (JIX7_followTable I15 Q QX) (LIX7_followTable I15) none 0)) Q QX kX7_followTable 0 (lv_args 0 [.ref 7, .ref 6]) [] σ := h
set_option maxRecDepth 50000 in
theorem pX7_followTable_15 (I15 : Nat → Int32 → Int32 → zS → Prop) (Q : Option Value → zS → Prop) (QX : zS → Prop) (m : Nat) (x2 : Int32) (x3 : Int32) (σ : zS) (h : PX7_followTable_15 (fun y2 y3 τ => ∃ n', zlt n' (some m) ∧ I15 n' y2 y3 τ) Q QX x2 x3 σ) : zwp JX7_followTable (zB hX7_followTable (zKt jnX7_followTable (JIX7_followTable I15 Q QX) (LIX7_followTable I15) (some m) 15)) Q QX kX7_followTable 15 [(0, .ref 7), (1, .ref 6), (2, .int x2), (3, .int x3)] [] σ := h
set_option maxRecDepth 50000 in
theorem rX7_followTable {Q : Option Value → zS → Prop} {QX : zS → Prop}  {σ : zS} (I15 : Nat → Int32 → Int32 → zS → Prop) (hs15 : ∀ (m : Nat) (x2 : Int32) (x3 : Int32) (σ : zS), I15 m x2 x3 σ → PX7_followTable_15 (fun y2 y3 τ => ∃ n', zlt n' (some m) ∧ I15 n' y2 y3 τ) Q QX x2 x3 σ) (h0 : PX7_followTable_0 (fun y2 y3 τ => ∃ n', zlt n' none ∧ I15 n' y2 y3 τ) Q QX  σ) : zCT zZC zmX7_followTable [.ref 7, .ref 6] σ Q QX := by
  refine zCT_of zZC_ok pnX7 (Nat.le_of_ble_eq_true rfl) kX7_followTable ksX7_followTable JX7_followTable 16 (fun t ht => ?_) hX7_followTable jnX7_followTable (JIX7_followTable I15 Q QX) (LIX7_followTable I15) (fun n t ln σ' ht hj hI => ?_) (fun m t ln σ' ht hj hI => ?_) (pX7_followTable_0 I15 Q QX  σ h0)
  · have et := Nat.eq_of_beq_eq_true ht; subst et
    exact Nat.le_of_ble_eq_true rfl
  · have et := Nat.eq_of_beq_eq_true ht; subst et
    cases hj
  · have et := Nat.eq_of_beq_eq_true ht; subst et
    have hI : LIX7_followTable I15 15 m ln σ' := hI
    obtain ⟨l0, e0, hI⟩ := zdR_e (i := 0) (q := 7) hI; subst e0
    obtain ⟨l1, e1, hI⟩ := zdR_e (i := 1) (q := 6) hI; subst e1
    obtain ⟨x2, l2, e2, hI⟩ := zdI_e (i := 2) hI; subst e2
    obtain ⟨x3, l3, e3, hI⟩ := zdI_e (i := 3) hI; subst e3
    obtain ⟨e, hI⟩ := zdN_e hI; subst e
    exact pX7_followTable_15 I15 Q QX m x2 x3 σ' (hs15 m x2 x3 σ' hI)
def JX8_count : Nat → Bool := fun t => false && Nat.beq t 0
def jnX8_count : Nat → Bool := fun t => false && Nat.beq t 0
def hX8_count : Nat → List Nat := fun t => []
def PX8_count_0  (Q : Option Value → zS → Prop) (QX : zS → Prop) (a1 : Int32) (σ : zS) : Prop :=
  zCT zZC zmX0_countOf [.ref 9, .int a1] σ (zQi (fun r2 s1 =>
    Q (some (.int r2)) s1)) QX
def LIX8_count  : Nat → Nat → zLo → zS → Prop := fun t n l τ => False
def JIX8_count  (Q : Option Value → zS → Prop) (QX : zS → Prop) : Nat → Option Nat → zLo → zS → Prop := fun t n l τ => False
set_option maxRecDepth 50000 in
theorem pX8_count_0  (Q : Option Value → zS → Prop) (QX : zS → Prop)  (a1 : Int32) (σ : zS) (h : PX8_count_0  Q QX a1 σ) : zwp JX8_count (zB hX8_count (zKt jnX8_count (JIX8_count  Q QX) (LIX8_count ) none 0)) Q QX kX8_count 0 (lv_args 0 [.ref 0, .int a1]) [] σ := h
set_option maxRecDepth 50000 in
theorem rX8_count {Q : Option Value → zS → Prop} {QX : zS → Prop} {a1 : Int32} {σ : zS}   (h0 : PX8_count_0  Q QX a1 σ) : zCT zZC zmX8_count [.ref 0, .int a1] σ Q QX := by
  refine zCT_of zZC_ok pnX8 (Nat.le_of_ble_eq_true rfl) kX8_count ksX8_count JX8_count 1 (fun t ht => ?_) hX8_count jnX8_count (JIX8_count  Q QX) (LIX8_count ) (fun n t ln σ' ht hj hI => ?_) (fun m t ln σ' ht hj hI => ?_) (pX8_count_0  Q QX a1 σ h0)
  · cases ht
  · cases ht
  · cases ht
def JX8_feed : Nat → Bool := fun t => false && Nat.beq t 0
def jnX8_feed : Nat → Bool := fun t => false && Nat.beq t 0
def hX8_feed : Nat → List Nat := fun t => []
def PX8_feed_0  (Q : Option Value → zS → Prop) (QX : zS → Prop) (a1 : Int32) (a2 : Int32) (a3 : Int32) (a4 : Int32) (a5 : Int32) (σ : zS) : Prop :=
  (((15980 : Int32) < (σ.1 1 1) →
    Q (some (.int (-1 : Int32))) σ) ∧ (¬ (15980 : Int32) < (σ.1 1 1) →
    (((σ.1 0 5) ≤ (65516 : Int32) →
      zCT zZC zmX4_add [.ref 1, .int a1] σ (zQv (fun s1 =>
        zCT zZC zmX4_add [.ref 1, .int a2] s1 (zQv (fun s2 =>
          zCT zZC zmX4_add [.ref 1, .int a3] s2 (zQv (fun s3 =>
            zCT zZC zmX4_add [.ref 1, .int a4] s3 (zQv (fun s4 =>
              zCT zZC zmX4_add [.ref 1, .int a5] s4 (zQv (fun s5 =>
                ∀ s6 : zS, s6 = zsI s5 0 5 ((s5.1 0 5) + (20 : Int32)) →
                Q (some (.int (s6.1 1 1))) s6)) QX)) QX)) QX)) QX)) QX) ∧ (¬ (σ.1 0 5) ≤ (65516 : Int32) →
      Q (some (.int (-1 : Int32))) σ))))
def LIX8_feed  : Nat → Nat → zLo → zS → Prop := fun t n l τ => False
def JIX8_feed  (Q : Option Value → zS → Prop) (QX : zS → Prop) : Nat → Option Nat → zLo → zS → Prop := fun t n l τ => False
set_option maxRecDepth 50000 in
theorem pX8_feed_0  (Q : Option Value → zS → Prop) (QX : zS → Prop)  (a1 : Int32) (a2 : Int32) (a3 : Int32) (a4 : Int32) (a5 : Int32) (σ : zS) (h : PX8_feed_0  Q QX a1 a2 a3 a4 a5 σ) : zwp JX8_feed (zB hX8_feed (zKt jnX8_feed (JIX8_feed  Q QX) (LIX8_feed ) none 0)) Q QX kX8_feed 0 (lv_args 0 [.ref 0, .int a1, .int a2, .int a3, .int a4, .int a5]) [] σ := h
set_option maxRecDepth 50000 in
theorem rX8_feed {Q : Option Value → zS → Prop} {QX : zS → Prop} {a1 : Int32} {a2 : Int32} {a3 : Int32} {a4 : Int32} {a5 : Int32} {σ : zS}   (h0 : PX8_feed_0  Q QX a1 a2 a3 a4 a5 σ) : zCT zZC zmX8_feed [.ref 0, .int a1, .int a2, .int a3, .int a4, .int a5] σ Q QX := by
  refine zCT_of zZC_ok pnX8 (Nat.le_of_ble_eq_true rfl) kX8_feed ksX8_feed JX8_feed 1 (fun t ht => ?_) hX8_feed jnX8_feed (JIX8_feed  Q QX) (LIX8_feed ) (fun n t ln σ' ht hj hI => ?_) (fun m t ln σ' ht hj hI => ?_) (pX8_feed_0  Q QX a1 a2 a3 a4 a5 σ h0)
  · cases ht
  · cases ht
  · cases ht
def JX8_instructions : Nat → Bool := fun t => false && Nat.beq t 0
def jnX8_instructions : Nat → Bool := fun t => false && Nat.beq t 0
def hX8_instructions : Nat → List Nat := fun t => []
def PX8_instructions_0  (Q : Option Value → zS → Prop) (QX : zS → Prop) (a1 : Int32) (σ : zS) : Prop :=
  zCT zZC zmX0_has [.ref 9, .int a1] σ (zQi (fun r2 s1 =>
    ((r2 = 0 →
      Q (some (.int (-1 : Int32))) s1) ∧ (¬ r2 = 0 →
      vp_in a1 64 ∧
      Q (some (.int (s1.1 35 a1.toNatClampNeg))) s1)))) QX
def LIX8_instructions  : Nat → Nat → zLo → zS → Prop := fun t n l τ => False
def JIX8_instructions  (Q : Option Value → zS → Prop) (QX : zS → Prop) : Nat → Option Nat → zLo → zS → Prop := fun t n l τ => False
set_option maxRecDepth 50000 in
theorem pX8_instructions_0  (Q : Option Value → zS → Prop) (QX : zS → Prop)  (a1 : Int32) (σ : zS) (h : PX8_instructions_0  Q QX a1 σ) : zwp JX8_instructions (zB hX8_instructions (zKt jnX8_instructions (JIX8_instructions  Q QX) (LIX8_instructions ) none 0)) Q QX kX8_instructions 0 (lv_args 0 [.ref 0, .int a1]) [] σ := h
set_option maxRecDepth 50000 in
theorem rX8_instructions {Q : Option Value → zS → Prop} {QX : zS → Prop} {a1 : Int32} {σ : zS}   (h0 : PX8_instructions_0  Q QX a1 σ) : zCT zZC zmX8_instructions [.ref 0, .int a1] σ Q QX := by
  refine zCT_of zZC_ok pnX8 (Nat.le_of_ble_eq_true rfl) kX8_instructions ksX8_instructions JX8_instructions 1 (fun t ht => ?_) hX8_instructions jnX8_instructions (JIX8_instructions  Q QX) (LIX8_instructions ) (fun n t ln σ' ht hj hI => ?_) (fun m t ln σ' ht hj hI => ?_) (pX8_instructions_0  Q QX a1 σ h0)
  · cases ht
  · cases ht
  · cases ht
def JX8_locals : Nat → Bool := fun t => false && Nat.beq t 0
def jnX8_locals : Nat → Bool := fun t => false && Nat.beq t 0
def hX8_locals : Nat → List Nat := fun t => []
def PX8_locals_0  (Q : Option Value → zS → Prop) (QX : zS → Prop) (a1 : Int32) (σ : zS) : Prop :=
  zCT zZC zmX0_has [.ref 9, .int a1] σ (zQi (fun r2 s1 =>
    ((r2 = 0 →
      Q (some (.int (-1 : Int32))) s1) ∧ (¬ r2 = 0 →
      vp_in a1 64 ∧
      Q (some (.int (s1.1 36 a1.toNatClampNeg))) s1)))) QX
def LIX8_locals  : Nat → Nat → zLo → zS → Prop := fun t n l τ => False
def JIX8_locals  (Q : Option Value → zS → Prop) (QX : zS → Prop) : Nat → Option Nat → zLo → zS → Prop := fun t n l τ => False
set_option maxRecDepth 50000 in
theorem pX8_locals_0  (Q : Option Value → zS → Prop) (QX : zS → Prop)  (a1 : Int32) (σ : zS) (h : PX8_locals_0  Q QX a1 σ) : zwp JX8_locals (zB hX8_locals (zKt jnX8_locals (JIX8_locals  Q QX) (LIX8_locals ) none 0)) Q QX kX8_locals 0 (lv_args 0 [.ref 0, .int a1]) [] σ := h
set_option maxRecDepth 50000 in
theorem rX8_locals {Q : Option Value → zS → Prop} {QX : zS → Prop} {a1 : Int32} {σ : zS}   (h0 : PX8_locals_0  Q QX a1 σ) : zCT zZC zmX8_locals [.ref 0, .int a1] σ Q QX := by
  refine zCT_of zZC_ok pnX8 (Nat.le_of_ble_eq_true rfl) kX8_locals ksX8_locals JX8_locals 1 (fun t ht => ?_) hX8_locals jnX8_locals (JIX8_locals  Q QX) (LIX8_locals ) (fun n t ln σ' ht hj hI => ?_) (fun m t ln σ' ht hj hI => ?_) (pX8_locals_0  Q QX a1 σ h0)
  · cases ht
  · cases ht
  · cases ht
def JX1_turnFrames : Nat → Bool := fun t => false && Nat.beq t 0
def jnX1_turnFrames : Nat → Bool := fun t => false && Nat.beq t 0
def hX1_turnFrames : Nat → List Nat := fun t => []
def PX1_turnFrames_0  (Q : Option Value → zS → Prop) (QX : zS → Prop)  (σ : zS) : Prop :=
  ((zin (σ.1 6 3) [2, 3, 4] →
    zCT zZC zmX3_open [.ref 5, .int (σ.1 6 3), .int ((σ.2 6 4).toInt32)] σ (zQv (fun s1 =>
      Q none s1)) QX) ∧ (¬ zin (σ.1 6 3) [2, 3, 4] →
  (((σ.1 6 3) = 5 →
    zCT zZC zmX3_turnToElse [.ref 5] σ (zQv (fun s2 =>
      Q none s2)) QX) ∧ (¬ (σ.1 6 3) = 5 →
  (((σ.1 6 3) = 11 →
    zCT zZC zmX3_close [.ref 5] σ (zQv (fun s3 =>
      Q none s3)) QX) ∧ (¬ (σ.1 6 3) = 11 →
    Q none σ))))))
def LIX1_turnFrames  : Nat → Nat → zLo → zS → Prop := fun t n l τ => False
def JIX1_turnFrames  (Q : Option Value → zS → Prop) (QX : zS → Prop) : Nat → Option Nat → zLo → zS → Prop := fun t n l τ => False
set_option maxRecDepth 50000 in
theorem pX1_turnFrames_0  (Q : Option Value → zS → Prop) (QX : zS → Prop)   (σ : zS) (h : PX1_turnFrames_0  Q QX  σ) : zwp JX1_turnFrames (zB hX1_turnFrames (zKt jnX1_turnFrames (JIX1_turnFrames  Q QX) (LIX1_turnFrames ) none 0)) Q QX kX1_turnFrames 0 (lv_args 0 [.ref 4]) [] σ := h
set_option maxRecDepth 50000 in
theorem rX1_turnFrames {Q : Option Value → zS → Prop} {QX : zS → Prop}  {σ : zS}   (h0 : PX1_turnFrames_0  Q QX  σ) : zCT zZC zmX1_turnFrames [.ref 4] σ Q QX := by
  refine zCT_of zZC_ok pnX1 (Nat.le_of_ble_eq_true rfl) kX1_turnFrames ksX1_turnFrames JX1_turnFrames 1 (fun t ht => ?_) hX1_turnFrames jnX1_turnFrames (JIX1_turnFrames  Q QX) (LIX1_turnFrames ) (fun n t ln σ' ht hj hI => ?_) (fun m t ln σ' ht hj hI => ?_) (pX1_turnFrames_0  Q QX  σ h0)
  · cases ht
  · cases ht
  · cases ht
def JX4_length : Nat → Bool := fun t => false && Nat.beq t 0
def jnX4_length : Nat → Bool := fun t => false && Nat.beq t 0
def hX4_length : Nat → List Nat := fun t => []
def PX4_length_0  (Q : Option Value → zS → Prop) (QX : zS → Prop)  (σ : zS) : Prop :=
  zCT zZC zmX4_number [.ref 1] σ (zQl (fun r2 s1 =>
    ((r2 ≤ (((s1.1 1 3) - (s1.1 1 2)).toInt64) →
      (((s1.1 1 4) = 0 →
        Q (some (.int (r2.toInt32))) s1) ∧ (¬ (s1.1 1 4) = 0 →
        Q (some (.int (0 : Int32))) s1))) ∧ (¬ r2 ≤ (((s1.1 1 3) - (s1.1 1 2)).toInt64) →
      zCT zZC zmX4_fail [.ref 1, .int (1 : Int32), .int (σ.1 1 2)] s1 (zQv (fun s3 =>
        (((s3.1 1 4) = 0 →
          Q (some (.int (r2.toInt32))) s3) ∧ (¬ (s3.1 1 4) = 0 →
          Q (some (.int (0 : Int32))) s3)))) QX)))) QX
def LIX4_length  : Nat → Nat → zLo → zS → Prop := fun t n l τ => False
def JIX4_length  (Q : Option Value → zS → Prop) (QX : zS → Prop) : Nat → Option Nat → zLo → zS → Prop := fun t n l τ => False
set_option maxRecDepth 50000 in
theorem pX4_length_0  (Q : Option Value → zS → Prop) (QX : zS → Prop)   (σ : zS) (h : PX4_length_0  Q QX  σ) : zwp JX4_length (zB hX4_length (zKt jnX4_length (JIX4_length  Q QX) (LIX4_length ) none 0)) Q QX kX4_length 0 (lv_args 0 [.ref 1]) [] σ := h
set_option maxRecDepth 50000 in
theorem rX4_length {Q : Option Value → zS → Prop} {QX : zS → Prop}  {σ : zS}   (h0 : PX4_length_0  Q QX  σ) : zCT zZC zmX4_length [.ref 1] σ Q QX := by
  refine zCT_of zZC_ok pnX4 (Nat.le_of_ble_eq_true rfl) kX4_length ksX4_length JX4_length 1 (fun t ht => ?_) hX4_length jnX4_length (JIX4_length  Q QX) (LIX4_length ) (fun n t ln σ' ht hj hI => ?_) (fun m t ln σ' ht hj hI => ?_) (pX4_length_0  Q QX  σ h0)
  · cases ht
  · cases ht
  · cases ht
def JX4_name : Nat → Bool := fun t => Nat.beq t 63
def jnX4_name : Nat → Bool := fun t => false && Nat.beq t 0
def hX4_name : Nat → List Nat := fun t => bif Nat.beq t 63 then [0, 1, 4, 5] else []
def PX4_name_63 (K63 : Int32 → Int32 → Int32 → zS → Prop) (Q : Option Value → zS → Prop) (QX : zS → Prop) (x1 : Int32) (x4 : Int32) (x5 : Int32) (σ : zS) : Prop :=
  ((x4 ≤ x5 →
    (((σ.1 1 4) = 0 →
      Q (some (.int x4)) σ) ∧ (¬ (σ.1 1 4) = 0 →
      Q (some (.int (0 : Int32))) σ))) ∧ (¬ x4 ≤ x5 →
    (((σ.1 1 4) = 0 →
      zCT zZC zmX4_octet [.ref 1] σ (zQi (fun r2 s1 =>
        ((r2 < (33 : Int32) →
          zCT zZC zmX4_fail [.ref 1, .int (1 : Int32), .int x1] s1 (zQv (fun s3 =>
            K63 x1 x4 (x5 + 1) s3)) QX) ∧ (¬ r2 < (33 : Int32) →
          ((r2 ≤ (126 : Int32) →
            K63 x1 x4 (x5 + 1) s1) ∧ (¬ r2 ≤ (126 : Int32) →
            zCT zZC zmX4_fail [.ref 1, .int (1 : Int32), .int x1] s1 (zQv (fun s4 =>
              K63 x1 x4 (x5 + 1) s4)) QX)))))) QX) ∧ (¬ (σ.1 1 4) = 0 →
      (((σ.1 1 4) = 0 →
        Q (some (.int x4)) σ) ∧ (¬ (σ.1 1 4) = 0 →
        Q (some (.int (0 : Int32))) σ))))))
def PX4_name_0 (K63 : Int32 → Int32 → Int32 → zS → Prop) (Q : Option Value → zS → Prop) (QX : zS → Prop)  (σ : zS) : Prop :=
  zCT zZC zmX4_number [.ref 1] σ (zQl (fun r2 s1 =>
    ((r2 < (1 : Int64) →
      zCT zZC zmX4_fail [.ref 1, .int (1 : Int32), .int (σ.1 1 2)] s1 (zQv (fun s3 =>
        (((s3.1 1 4) = 0 →
          K63 (σ.1 1 2) (r2.toInt32) (0 : Int32) s3) ∧ (¬ (s3.1 1 4) = 0 →
          K63 (σ.1 1 2) (0 : Int32) (0 : Int32) s3)))) QX) ∧ (¬ r2 < (1 : Int64) →
      (((100 : Int64) < r2 →
        zCT zZC zmX4_fail [.ref 1, .int (1 : Int32), .int (σ.1 1 2)] s1 (zQv (fun s4 =>
          (((s4.1 1 4) = 0 →
            K63 (σ.1 1 2) (r2.toInt32) (0 : Int32) s4) ∧ (¬ (s4.1 1 4) = 0 →
            K63 (σ.1 1 2) (0 : Int32) (0 : Int32) s4)))) QX) ∧ (¬ (100 : Int64) < r2 →
        ((r2 ≤ (((s1.1 1 3) - (s1.1 1 2)).toInt64) →
          (((s1.1 1 4) = 0 →
            K63 (σ.1 1 2) (r2.toInt32) (0 : Int32) s1) ∧ (¬ (s1.1 1 4) = 0 →
            K63 (σ.1 1 2) (0 : Int32) (0 : Int32) s1))) ∧ (¬ r2 ≤ (((s1.1 1 3) - (s1.1 1 2)).toInt64) →
          zCT zZC zmX4_fail [.ref 1, .int (1 : Int32), .int (σ.1 1 2)] s1 (zQv (fun s5 =>
            (((s5.1 1 4) = 0 →
              K63 (σ.1 1 2) (r2.toInt32) (0 : Int32) s5) ∧ (¬ (s5.1 1 4) = 0 →
              K63 (σ.1 1 2) (0 : Int32) (0 : Int32) s5)))) QX)))))))) QX
def LIX4_name (I63 : Nat → Int32 → Int32 → Int32 → zS → Prop) : Nat → Nat → zLo → zS → Prop := fun t n l τ => bif Nat.beq t 63 then zdR 0 1 (zdI 1 (fun x1 => zdI 4 (fun x4 => zdI 5 (fun x5 => zdN (I63 n x1 x4 x5 τ))))) l else False
def JIX4_name (I63 : Nat → Int32 → Int32 → Int32 → zS → Prop) (Q : Option Value → zS → Prop) (QX : zS → Prop) : Nat → Option Nat → zLo → zS → Prop := fun t n l τ => False
set_option maxRecDepth 50000 in
theorem pX4_name_0 (I63 : Nat → Int32 → Int32 → Int32 → zS → Prop) (Q : Option Value → zS → Prop) (QX : zS → Prop)   (σ : zS) (h : PX4_name_0 (fun y1 y4 y5 τ => ∃ n', zlt n' none ∧ I63 n' y1 y4 y5 τ) Q QX  σ) : zwp JX4_name (zB hX4_name (zKt jnX4_name (JIX4_name I63 Q QX) (LIX4_name I63) none 0)) Q QX kX4_name 0 (lv_args 0 [.ref 1]) [] σ := h
set_option maxRecDepth 50000 in
theorem pX4_name_63 (I63 : Nat → Int32 → Int32 → Int32 → zS → Prop) (Q : Option Value → zS → Prop) (QX : zS → Prop) (m : Nat) (x1 : Int32) (x4 : Int32) (x5 : Int32) (σ : zS) (h : PX4_name_63 (fun y1 y4 y5 τ => ∃ n', zlt n' (some m) ∧ I63 n' y1 y4 y5 τ) Q QX x1 x4 x5 σ) : zwp JX4_name (zB hX4_name (zKt jnX4_name (JIX4_name I63 Q QX) (LIX4_name I63) (some m) 63)) Q QX kX4_name 63 [(0, .ref 1), (1, .int x1), (4, .int x4), (5, .int x5)] [] σ := h
set_option maxRecDepth 50000 in
theorem rX4_name {Q : Option Value → zS → Prop} {QX : zS → Prop}  {σ : zS} (I63 : Nat → Int32 → Int32 → Int32 → zS → Prop) (hs63 : ∀ (m : Nat) (x1 : Int32) (x4 : Int32) (x5 : Int32) (σ : zS), I63 m x1 x4 x5 σ → PX4_name_63 (fun y1 y4 y5 τ => ∃ n', zlt n' (some m) ∧ I63 n' y1 y4 y5 τ) Q QX x1 x4 x5 σ) (h0 : PX4_name_0 (fun y1 y4 y5 τ => ∃ n', zlt n' none ∧ I63 n' y1 y4 y5 τ) Q QX  σ) : zCT zZC zmX4_name [.ref 1] σ Q QX := by
  refine zCT_of zZC_ok pnX4 (Nat.le_of_ble_eq_true rfl) kX4_name ksX4_name JX4_name 64 (fun t ht => ?_) hX4_name jnX4_name (JIX4_name I63 Q QX) (LIX4_name I63) (fun n t ln σ' ht hj hI => ?_) (fun m t ln σ' ht hj hI => ?_) (pX4_name_0 I63 Q QX  σ h0)
  · have et := Nat.eq_of_beq_eq_true ht; subst et
    exact Nat.le_of_ble_eq_true rfl
  · have et := Nat.eq_of_beq_eq_true ht; subst et
    cases hj
  · have et := Nat.eq_of_beq_eq_true ht; subst et
    have hI : LIX4_name I63 63 m ln σ' := hI
    obtain ⟨l0, e0, hI⟩ := zdR_e (i := 0) (q := 1) hI; subst e0
    obtain ⟨x1, l1, e1, hI⟩ := zdI_e (i := 1) hI; subst e1
    obtain ⟨x4, l4, e4, hI⟩ := zdI_e (i := 4) hI; subst e4
    obtain ⟨x5, l5, e5, hI⟩ := zdI_e (i := 5) hI; subst e5
    obtain ⟨e, hI⟩ := zdN_e hI; subst e
    exact pX4_name_63 I63 Q QX m x1 x4 x5 σ' (hs63 m x1 x4 x5 σ' hI)
def JX4_rowLength : Nat → Bool := fun t => false && Nat.beq t 0
def jnX4_rowLength : Nat → Bool := fun t => false && Nat.beq t 0
def hX4_rowLength : Nat → List Nat := fun t => []
def PX4_rowLength_0  (Q : Option Value → zS → Prop) (QX : zS → Prop)  (σ : zS) : Prop :=
  zCT zZC zmX4_number [.ref 1] σ (zQl (fun r2 s1 =>
    Q (some (.int ((if (16000 : Int64) < r2 then (16000 : Int64) else r2).toInt32))) s1)) QX
def LIX4_rowLength  : Nat → Nat → zLo → zS → Prop := fun t n l τ => False
def JIX4_rowLength  (Q : Option Value → zS → Prop) (QX : zS → Prop) : Nat → Option Nat → zLo → zS → Prop := fun t n l τ => False
set_option maxRecDepth 50000 in
theorem pX4_rowLength_0  (Q : Option Value → zS → Prop) (QX : zS → Prop)   (σ : zS) (h : PX4_rowLength_0  Q QX  σ) : zwp JX4_rowLength (zB hX4_rowLength (zKt jnX4_rowLength (JIX4_rowLength  Q QX) (LIX4_rowLength ) none 0)) Q QX kX4_rowLength 0 (lv_args 0 [.ref 1]) [] σ := h
set_option maxRecDepth 50000 in
theorem rX4_rowLength {Q : Option Value → zS → Prop} {QX : zS → Prop}  {σ : zS}   (h0 : PX4_rowLength_0  Q QX  σ) : zCT zZC zmX4_rowLength [.ref 1] σ Q QX := by
  refine zCT_of zZC_ok pnX4 (Nat.le_of_ble_eq_true rfl) kX4_rowLength ksX4_rowLength JX4_rowLength 1 (fun t ht => ?_) hX4_rowLength jnX4_rowLength (JIX4_rowLength  Q QX) (LIX4_rowLength ) (fun n t ln σ' ht hj hI => ?_) (fun m t ln σ' ht hj hI => ?_) (pX4_rowLength_0  Q QX  σ h0)
  · cases ht
  · cases ht
  · cases ht
