theorem pnX10 : plainName RX10 = true := by decide +kernel
theorem pnX9 : plainName RX9 = true := by decide +kernel
def JX10_areRight : Nat → Bool := fun t => false && Nat.beq t 0
def jnX10_areRight : Nat → Bool := fun t => false && Nat.beq t 0
def hX10_areRight : Nat → List Nat := fun t => []
def PX10_areRight_0  (Q : Option Value → zS → Prop) (QX : zS → Prop) (a1 : Int32) (a2 : Int64) (a3 : Int64) (σ : zS) : Prop :=
  ((a3 < (0 : Int64) →
    ((a1 = (1 : Int32) →
      ((1 : Int32) = 0 ∨ (1 : Int32) = 1) ∧ Q (some (.int (1 : Int32))) σ) ∧ (¬ a1 = (1 : Int32) →
      (((65536 : Int64) < a2 →
        ((0 : Int32) = 0 ∨ (0 : Int32) = 1) ∧ Q (some (.int (0 : Int32))) σ) ∧ (¬ (65536 : Int64) < a2 →
        (((65536 : Int64) < a3 →
          ((0 : Int32) = 0 ∨ (0 : Int32) = 1) ∧ Q (some (.int (0 : Int32))) σ) ∧ (¬ (65536 : Int64) < a3 →
          ((1 : Int32) = 0 ∨ (1 : Int32) = 1) ∧ Q (some (.int (1 : Int32))) σ))))))) ∧ (¬ a3 < (0 : Int64) →
    ((a3 < a2 →
      ((0 : Int32) = 0 ∨ (0 : Int32) = 1) ∧ Q (some (.int (0 : Int32))) σ) ∧ (¬ a3 < a2 →
      ((a1 = (1 : Int32) →
        ((1 : Int32) = 0 ∨ (1 : Int32) = 1) ∧ Q (some (.int (1 : Int32))) σ) ∧ (¬ a1 = (1 : Int32) →
        (((65536 : Int64) < a2 →
          ((0 : Int32) = 0 ∨ (0 : Int32) = 1) ∧ Q (some (.int (0 : Int32))) σ) ∧ (¬ (65536 : Int64) < a2 →
          (((65536 : Int64) < a3 →
            ((0 : Int32) = 0 ∨ (0 : Int32) = 1) ∧ Q (some (.int (0 : Int32))) σ) ∧ (¬ (65536 : Int64) < a3 →
            ((1 : Int32) = 0 ∨ (1 : Int32) = 1) ∧ Q (some (.int (1 : Int32))) σ))))))))))
def LIX10_areRight  : Nat → Nat → zLo → zS → Prop := fun t n l τ => False
def JIX10_areRight  (Q : Option Value → zS → Prop) (QX : zS → Prop) : Nat → Option Nat → zLo → zS → Prop := fun t n l τ => False
set_option maxRecDepth 50000 in
theorem pX10_areRight_0  (Q : Option Value → zS → Prop) (QX : zS → Prop)  (a1 : Int32) (a2 : Int64) (a3 : Int64) (σ : zS) (h : PX10_areRight_0  Q QX a1 a2 a3 σ) : zwp JX10_areRight (zB hX10_areRight (zKt jnX10_areRight (JIX10_areRight  Q QX) (LIX10_areRight ) none 0)) Q QX kX10_areRight 0 (lv_args 0 [.int a1, .long a2, .long a3]) [] σ := h
set_option maxRecDepth 50000 in
theorem rX10_areRight {Q : Option Value → zS → Prop} {QX : zS → Prop} {a1 : Int32} {a2 : Int64} {a3 : Int64} {σ : zS}   (h0 : PX10_areRight_0  Q QX a1 a2 a3 σ) : zCT zZM zmX10_areRight [.int a1, .long a2, .long a3] σ Q QX := by
  refine zCT_of zZM_ok pnX10 (Nat.le_of_ble_eq_true rfl) kX10_areRight ksX10_areRight JX10_areRight 1 (fun t ht => ?_) hX10_areRight jnX10_areRight (JIX10_areRight  Q QX) (LIX10_areRight ) (fun n t ln σ' ht hj hI => ?_) (fun m t ln σ' ht hj hI => ?_) (pX10_areRight_0  Q QX a1 a2 a3 σ h0)
  · cases ht
  · cases ht
  · cases ht
def JX10_count : Nat → Bool := fun t => false && Nat.beq t 0
def jnX10_count : Nat → Bool := fun t => false && Nat.beq t 0
def hX10_count : Nat → List Nat := fun t => []
def PX10_count_0  (Q : Option Value → zS → Prop) (QX : zS → Prop) (a1 : Int32) (σ : zS) : Prop :=
  (((σ.1 0 2) = 0 →
    Q (some (.int (-1 : Int32))) σ) ∧ (¬ (σ.1 0 2) = 0 →
    ((a1 = 1 →
      Q (some (.int (σ.1 2 2))) σ) ∧ (¬ a1 = 1 →
    ((a1 = 2 →
      Q (some (.int (σ.1 2 3))) σ) ∧ (¬ a1 = 2 →
    ((a1 = 3 →
      Q (some (.int (σ.1 2 4))) σ) ∧ (¬ a1 = 3 →
    ((a1 = 4 →
      Q (some (.int (σ.1 2 12))) σ) ∧ (¬ a1 = 4 →
    ((a1 = 5 →
      Q (some (.int (σ.1 2 13))) σ) ∧ (¬ a1 = 5 →
    ((a1 = 6 →
      Q (some (.int (σ.1 2 5))) σ) ∧ (¬ a1 = 6 →
    ((a1 = 7 →
      Q (some (.int (σ.1 2 6))) σ) ∧ (¬ a1 = 7 →
    ((a1 = 9 →
      Q (some (.int (σ.1 2 7))) σ) ∧ (¬ a1 = 9 →
    ((a1 = 11 →
      Q (some (.int (σ.1 2 8))) σ) ∧ (¬ a1 = 11 →
      Q (some (.int (-1 : Int32))) σ))))))))))))))))))))
def LIX10_count  : Nat → Nat → zLo → zS → Prop := fun t n l τ => False
def JIX10_count  (Q : Option Value → zS → Prop) (QX : zS → Prop) : Nat → Option Nat → zLo → zS → Prop := fun t n l τ => False
set_option maxRecDepth 50000 in
theorem pX10_count_0  (Q : Option Value → zS → Prop) (QX : zS → Prop)  (a1 : Int32) (σ : zS) (h : PX10_count_0  Q QX a1 σ) : zwp JX10_count (zB hX10_count (zKt jnX10_count (JIX10_count  Q QX) (LIX10_count ) none 0)) Q QX kX10_count 0 (lv_args 0 [.ref 0, .int a1]) [] σ := h
set_option maxRecDepth 50000 in
theorem rX10_count {Q : Option Value → zS → Prop} {QX : zS → Prop} {a1 : Int32} {σ : zS}   (h0 : PX10_count_0  Q QX a1 σ) : zCT zZM zmX10_count [.ref 0, .int a1] σ Q QX := by
  refine zCT_of zZM_ok pnX10 (Nat.le_of_ble_eq_true rfl) kX10_count ksX10_count JX10_count 1 (fun t ht => ?_) hX10_count jnX10_count (JIX10_count  Q QX) (LIX10_count ) (fun n t ln σ' ht hj hI => ?_) (fun m t ln σ' ht hj hI => ?_) (pX10_count_0  Q QX a1 σ h0)
  · cases ht
  · cases ht
  · cases ht
def JX10_end : Nat → Bool := fun t => false && Nat.beq t 0
def jnX10_end : Nat → Bool := fun t => false && Nat.beq t 0
def hX10_end : Nat → List Nat := fun t => []
def PX10_end_0  (Q : Option Value → zS → Prop) (QX : zS → Prop) (a1 : Int32) (σ : zS) : Prop :=
  ((a1 < 0 →
    ((0 : Int32) = 0 ∨ (0 : Int32) = 1) ∧ Q (some (.int (0 : Int32))) σ) ∧ (¬ a1 < 0 →
    ((a1 ≤ (σ.1 0 5) →
      ∀ s1 : zS, s1 = zsI σ 0 5 a1 →
      ((1 : Int32) = 0 ∨ (1 : Int32) = 1) ∧ Q (some (.int (1 : Int32))) s1) ∧ (¬ a1 ≤ (σ.1 0 5) →
      ((0 : Int32) = 0 ∨ (0 : Int32) = 1) ∧ Q (some (.int (0 : Int32))) σ))))
def LIX10_end  : Nat → Nat → zLo → zS → Prop := fun t n l τ => False
def JIX10_end  (Q : Option Value → zS → Prop) (QX : zS → Prop) : Nat → Option Nat → zLo → zS → Prop := fun t n l τ => False
set_option maxRecDepth 50000 in
theorem pX10_end_0  (Q : Option Value → zS → Prop) (QX : zS → Prop)  (a1 : Int32) (σ : zS) (h : PX10_end_0  Q QX a1 σ) : zwp JX10_end (zB hX10_end (zKt jnX10_end (JIX10_end  Q QX) (LIX10_end ) none 0)) Q QX kX10_end 0 (lv_args 0 [.ref 0, .int a1]) [] σ := h
set_option maxRecDepth 50000 in
theorem rX10_end {Q : Option Value → zS → Prop} {QX : zS → Prop} {a1 : Int32} {σ : zS}   (h0 : PX10_end_0  Q QX a1 σ) : zCT zZM zmX10_end [.ref 0, .int a1] σ Q QX := by
  refine zCT_of zZM_ok pnX10 (Nat.le_of_ble_eq_true rfl) kX10_end ksX10_end JX10_end 1 (fun t ht => ?_) hX10_end jnX10_end (JIX10_end  Q QX) (LIX10_end ) (fun n t ln σ' ht hj hI => ?_) (fun m t ln σ' ht hj hI => ?_) (pX10_end_0  Q QX a1 σ h0)
  · cases ht
  · cases ht
  · cases ht
def JX10_functionsOf : Nat → Bool := fun t => false && Nat.beq t 0
def jnX10_functionsOf : Nat → Bool := fun t => false && Nat.beq t 0
def hX10_functionsOf : Nat → List Nat := fun t => []
def PX10_functionsOf_0  (Q : Option Value → zS → Prop) (QX : zS → Prop)  (σ : zS) : Prop :=
  vp_in (0 : Int32) 4 ∧
  Q (some (.int ((σ.1 55 (0 : Int32).toNatClampNeg) + (σ.1 1 4)))) σ
def LIX10_functionsOf  : Nat → Nat → zLo → zS → Prop := fun t n l τ => False
def JIX10_functionsOf  (Q : Option Value → zS → Prop) (QX : zS → Prop) : Nat → Option Nat → zLo → zS → Prop := fun t n l τ => False
set_option maxRecDepth 50000 in
theorem pX10_functionsOf_0  (Q : Option Value → zS → Prop) (QX : zS → Prop)   (σ : zS) (h : PX10_functionsOf_0  Q QX  σ) : zwp JX10_functionsOf (zB hX10_functionsOf (zKt jnX10_functionsOf (JIX10_functionsOf  Q QX) (LIX10_functionsOf ) none 0)) Q QX kX10_functionsOf 0 (lv_args 0 [.ref 1]) [] σ := h
set_option maxRecDepth 50000 in
theorem rX10_functionsOf {Q : Option Value → zS → Prop} {QX : zS → Prop}  {σ : zS}   (h0 : PX10_functionsOf_0  Q QX  σ) : zCT zZM zmX10_functionsOf [.ref 1] σ Q QX := by
  refine zCT_of zZM_ok pnX10 (Nat.le_of_ble_eq_true rfl) kX10_functionsOf ksX10_functionsOf JX10_functionsOf 1 (fun t ht => ?_) hX10_functionsOf jnX10_functionsOf (JIX10_functionsOf  Q QX) (LIX10_functionsOf ) (fun n t ln σ' ht hj hI => ?_) (fun m t ln σ' ht hj hI => ?_) (pX10_functionsOf_0  Q QX  σ h0)
  · cases ht
  · cases ht
  · cases ht
def JX10_gives : Nat → Bool := fun t => false && Nat.beq t 0
def jnX10_gives : Nat → Bool := fun t => false && Nat.beq t 0
def hX10_gives : Nat → List Nat := fun t => []
def PX10_gives_0  (Q : Option Value → zS → Prop) (QX : zS → Prop) (a1 : Int32) (σ : zS) : Prop :=
  ((a1 = (2 : Int32) →
    Q none σ) ∧ (¬ a1 = (2 : Int32) →
    vp_in (σ.1 0 22) 32000 ∧ ∀ s1 : zS, s1 = zsI σ 7 (σ.1 0 22).toNatClampNeg (vp_nar .byte (a1.toInt8.toInt32)) →
    ∀ s2 : zS, s2 = zsI s1 0 22 ((s1.1 0 22) + (1 : Int32)) →
    Q none s2))
def LIX10_gives  : Nat → Nat → zLo → zS → Prop := fun t n l τ => False
def JIX10_gives  (Q : Option Value → zS → Prop) (QX : zS → Prop) : Nat → Option Nat → zLo → zS → Prop := fun t n l τ => False
set_option maxRecDepth 50000 in
theorem pX10_gives_0  (Q : Option Value → zS → Prop) (QX : zS → Prop)  (a1 : Int32) (σ : zS) (h : PX10_gives_0  Q QX a1 σ) : zwp JX10_gives (zB hX10_gives (zKt jnX10_gives (JIX10_gives  Q QX) (LIX10_gives ) none 0)) Q QX kX10_gives 0 (lv_args 0 [.ref 0, .int a1]) [] σ := h
set_option maxRecDepth 50000 in
theorem rX10_gives {Q : Option Value → zS → Prop} {QX : zS → Prop} {a1 : Int32} {σ : zS}   (h0 : PX10_gives_0  Q QX a1 σ) : zCT zZM zmX10_gives [.ref 0, .int a1] σ Q QX := by
  refine zCT_of zZM_ok pnX10 (Nat.le_of_ble_eq_true rfl) kX10_gives ksX10_gives JX10_gives 1 (fun t ht => ?_) hX10_gives jnX10_gives (JIX10_gives  Q QX) (LIX10_gives ) (fun n t ln σ' ht hj hI => ?_) (fun m t ln σ' ht hj hI => ?_) (pX10_gives_0  Q QX a1 σ h0)
  · cases ht
  · cases ht
  · cases ht
def JX10_globalsOf : Nat → Bool := fun t => false && Nat.beq t 0
def jnX10_globalsOf : Nat → Bool := fun t => false && Nat.beq t 0
def hX10_globalsOf : Nat → List Nat := fun t => []
def PX10_globalsOf_0  (Q : Option Value → zS → Prop) (QX : zS → Prop)  (σ : zS) : Prop :=
  vp_in (3 : Int32) 4 ∧
  Q (some (.int ((σ.1 55 (3 : Int32).toNatClampNeg) + (σ.1 1 5)))) σ
def LIX10_globalsOf  : Nat → Nat → zLo → zS → Prop := fun t n l τ => False
def JIX10_globalsOf  (Q : Option Value → zS → Prop) (QX : zS → Prop) : Nat → Option Nat → zLo → zS → Prop := fun t n l τ => False
set_option maxRecDepth 50000 in
theorem pX10_globalsOf_0  (Q : Option Value → zS → Prop) (QX : zS → Prop)   (σ : zS) (h : PX10_globalsOf_0  Q QX  σ) : zwp JX10_globalsOf (zB hX10_globalsOf (zKt jnX10_globalsOf (JIX10_globalsOf  Q QX) (LIX10_globalsOf ) none 0)) Q QX kX10_globalsOf 0 (lv_args 0 [.ref 1]) [] σ := h
set_option maxRecDepth 50000 in
theorem rX10_globalsOf {Q : Option Value → zS → Prop} {QX : zS → Prop}  {σ : zS}   (h0 : PX10_globalsOf_0  Q QX  σ) : zCT zZM zmX10_globalsOf [.ref 1] σ Q QX := by
  refine zCT_of zZM_ok pnX10 (Nat.le_of_ble_eq_true rfl) kX10_globalsOf ksX10_globalsOf JX10_globalsOf 1 (fun t ht => ?_) hX10_globalsOf jnX10_globalsOf (JIX10_globalsOf  Q QX) (LIX10_globalsOf ) (fun n t ln σ' ht hj hI => ?_) (fun m t ln σ' ht hj hI => ?_) (pX10_globalsOf_0  Q QX  σ h0)
  · cases ht
  · cases ht
  · cases ht
def JX10_headerAt : Nat → Bool := fun t => false && Nat.beq t 0
def jnX10_headerAt : Nat → Bool := fun t => false && Nat.beq t 0
def hX10_headerAt : Nat → List Nat := fun t => []
def PX10_headerAt_0  (Q : Option Value → zS → Prop) (QX : zS → Prop) (a1 : Int32) (σ : zS) : Prop :=
  ((a1 = (1 : Int32) →
    Q (some (.int (97 : Int32))) σ) ∧ (¬ a1 = (1 : Int32) →
    ((a1 = (2 : Int32) →
      Q (some (.int (115 : Int32))) σ) ∧ (¬ a1 = (2 : Int32) →
      ((a1 = (3 : Int32) →
        Q (some (.int (109 : Int32))) σ) ∧ (¬ a1 = (3 : Int32) →
        ((a1 = (4 : Int32) →
          Q (some (.int (1 : Int32))) σ) ∧ (¬ a1 = (4 : Int32) →
          Q (some (.int (0 : Int32))) σ))))))))
def LIX10_headerAt  : Nat → Nat → zLo → zS → Prop := fun t n l τ => False
def JIX10_headerAt  (Q : Option Value → zS → Prop) (QX : zS → Prop) : Nat → Option Nat → zLo → zS → Prop := fun t n l τ => False
set_option maxRecDepth 50000 in
theorem pX10_headerAt_0  (Q : Option Value → zS → Prop) (QX : zS → Prop)  (a1 : Int32) (σ : zS) (h : PX10_headerAt_0  Q QX a1 σ) : zwp JX10_headerAt (zB hX10_headerAt (zKt jnX10_headerAt (JIX10_headerAt  Q QX) (LIX10_headerAt ) none 0)) Q QX kX10_headerAt 0 (lv_args 0 [.int a1]) [] σ := h
set_option maxRecDepth 50000 in
theorem rX10_headerAt {Q : Option Value → zS → Prop} {QX : zS → Prop} {a1 : Int32} {σ : zS}   (h0 : PX10_headerAt_0  Q QX a1 σ) : zCT zZM zmX10_headerAt [.int a1] σ Q QX := by
  refine zCT_of zZM_ok pnX10 (Nat.le_of_ble_eq_true rfl) kX10_headerAt ksX10_headerAt JX10_headerAt 1 (fun t ht => ?_) hX10_headerAt jnX10_headerAt (JIX10_headerAt  Q QX) (LIX10_headerAt ) (fun n t ln σ' ht hj hI => ?_) (fun m t ln σ' ht hj hI => ?_) (pX10_headerAt_0  Q QX a1 σ h0)
  · cases ht
  · cases ht
  · cases ht
def JX10_importOf : Nat → Bool := fun t => false && Nat.beq t 0
def jnX10_importOf : Nat → Bool := fun t => false && Nat.beq t 0
def hX10_importOf : Nat → List Nat := fun t => []
def PX10_importOf_0  (Q : Option Value → zS → Prop) (QX : zS → Prop) (a1 : Int32) (a2 : Int32) (σ : zS) : Prop :=
  vp_in ((a1 * (32 : Int32)) + a2) 128 ∧
  Q (some (.int (σ.1 56 ((a1 * (32 : Int32)) + a2).toNatClampNeg))) σ
def LIX10_importOf  : Nat → Nat → zLo → zS → Prop := fun t n l τ => False
def JIX10_importOf  (Q : Option Value → zS → Prop) (QX : zS → Prop) : Nat → Option Nat → zLo → zS → Prop := fun t n l τ => False
set_option maxRecDepth 50000 in
theorem pX10_importOf_0  (Q : Option Value → zS → Prop) (QX : zS → Prop)  (a1 : Int32) (a2 : Int32) (σ : zS) (h : PX10_importOf_0  Q QX a1 a2 σ) : zwp JX10_importOf (zB hX10_importOf (zKt jnX10_importOf (JIX10_importOf  Q QX) (LIX10_importOf ) none 0)) Q QX kX10_importOf 0 (lv_args 0 [.ref 1, .int a1, .int a2]) [] σ := h
set_option maxRecDepth 50000 in
theorem rX10_importOf {Q : Option Value → zS → Prop} {QX : zS → Prop} {a1 : Int32} {a2 : Int32} {σ : zS}   (h0 : PX10_importOf_0  Q QX a1 a2 σ) : zCT zZM zmX10_importOf [.ref 1, .int a1, .int a2] σ Q QX := by
  refine zCT_of zZM_ok pnX10 (Nat.le_of_ble_eq_true rfl) kX10_importOf ksX10_importOf JX10_importOf 1 (fun t ht => ?_) hX10_importOf jnX10_importOf (JIX10_importOf  Q QX) (LIX10_importOf ) (fun n t ln σ' ht hj hI => ?_) (fun m t ln σ' ht hj hI => ?_) (pX10_importOf_0  Q QX a1 a2 σ h0)
  · cases ht
  · cases ht
  · cases ht
def JX10_isLoad : Nat → Bool := fun t => false && Nat.beq t 0
def jnX10_isLoad : Nat → Bool := fun t => false && Nat.beq t 0
def hX10_isLoad : Nat → List Nat := fun t => []
def PX10_isLoad_0  (Q : Option Value → zS → Prop) (QX : zS → Prop) (a1 : Int32) (σ : zS) : Prop :=
  ((a1 = (40 : Int32) →
    ((1 : Int32) = 0 ∨ (1 : Int32) = 1) ∧ Q (some (.int (1 : Int32))) σ) ∧ (¬ a1 = (40 : Int32) →
    ((a1 = (41 : Int32) →
      ((1 : Int32) = 0 ∨ (1 : Int32) = 1) ∧ Q (some (.int (1 : Int32))) σ) ∧ (¬ a1 = (41 : Int32) →
      ((a1 < (44 : Int32) →
        ((0 : Int32) = 0 ∨ (0 : Int32) = 1) ∧ Q (some (.int (0 : Int32))) σ) ∧ (¬ a1 < (44 : Int32) →
        (((53 : Int32) < a1 →
          ((0 : Int32) = 0 ∨ (0 : Int32) = 1) ∧ Q (some (.int (0 : Int32))) σ) ∧ (¬ (53 : Int32) < a1 →
          ((1 : Int32) = 0 ∨ (1 : Int32) = 1) ∧ Q (some (.int (1 : Int32))) σ))))))))
def LIX10_isLoad  : Nat → Nat → zLo → zS → Prop := fun t n l τ => False
def JIX10_isLoad  (Q : Option Value → zS → Prop) (QX : zS → Prop) : Nat → Option Nat → zLo → zS → Prop := fun t n l τ => False
set_option maxRecDepth 50000 in
theorem pX10_isLoad_0  (Q : Option Value → zS → Prop) (QX : zS → Prop)  (a1 : Int32) (σ : zS) (h : PX10_isLoad_0  Q QX a1 σ) : zwp JX10_isLoad (zB hX10_isLoad (zKt jnX10_isLoad (JIX10_isLoad  Q QX) (LIX10_isLoad ) none 0)) Q QX kX10_isLoad 0 (lv_args 0 [.int a1]) [] σ := h
set_option maxRecDepth 50000 in
theorem rX10_isLoad {Q : Option Value → zS → Prop} {QX : zS → Prop} {a1 : Int32} {σ : zS}   (h0 : PX10_isLoad_0  Q QX a1 σ) : zCT zZM zmX10_isLoad [.int a1] σ Q QX := by
  refine zCT_of zZM_ok pnX10 (Nat.le_of_ble_eq_true rfl) kX10_isLoad ksX10_isLoad JX10_isLoad 1 (fun t ht => ?_) hX10_isLoad jnX10_isLoad (JIX10_isLoad  Q QX) (LIX10_isLoad ) (fun n t ln σ' ht hj hI => ?_) (fun m t ln σ' ht hj hI => ?_) (pX10_isLoad_0  Q QX a1 σ h0)
  · cases ht
  · cases ht
  · cases ht
def JX10_isOwn : Nat → Bool := fun t => false && Nat.beq t 0
def jnX10_isOwn : Nat → Bool := fun t => false && Nat.beq t 0
def hX10_isOwn : Nat → List Nat := fun t => []
def PX10_isOwn_0  (Q : Option Value → zS → Prop) (QX : zS → Prop) (a1 : Int32) (σ : zS) : Prop :=
  (((σ.1 0 2) = 0 →
    ((0 : Int32) = 0 ∨ (0 : Int32) = 1) ∧ Q (some (.int (0 : Int32))) σ) ∧ (¬ (σ.1 0 2) = 0 →
    ((a1 < 0 →
      ((0 : Int32) = 0 ∨ (0 : Int32) = 1) ∧ Q (some (.int (0 : Int32))) σ) ∧ (¬ a1 < 0 →
      (((σ.1 2 4) ≤ a1 →
        ((0 : Int32) = 0 ∨ (0 : Int32) = 1) ∧ Q (some (.int (0 : Int32))) σ) ∧ (¬ (σ.1 2 4) ≤ a1 →
        ((1 : Int32) = 0 ∨ (1 : Int32) = 1) ∧ Q (some (.int (1 : Int32))) σ))))))
def LIX10_isOwn  : Nat → Nat → zLo → zS → Prop := fun t n l τ => False
def JIX10_isOwn  (Q : Option Value → zS → Prop) (QX : zS → Prop) : Nat → Option Nat → zLo → zS → Prop := fun t n l τ => False
set_option maxRecDepth 50000 in
theorem pX10_isOwn_0  (Q : Option Value → zS → Prop) (QX : zS → Prop)  (a1 : Int32) (σ : zS) (h : PX10_isOwn_0  Q QX a1 σ) : zwp JX10_isOwn (zB hX10_isOwn (zKt jnX10_isOwn (JIX10_isOwn  Q QX) (LIX10_isOwn ) none 0)) Q QX kX10_isOwn 0 (lv_args 0 [.ref 0, .int a1]) [] σ := h
set_option maxRecDepth 50000 in
theorem rX10_isOwn {Q : Option Value → zS → Prop} {QX : zS → Prop} {a1 : Int32} {σ : zS}   (h0 : PX10_isOwn_0  Q QX a1 σ) : zCT zZM zmX10_isOwn [.ref 0, .int a1] σ Q QX := by
  refine zCT_of zZM_ok pnX10 (Nat.le_of_ble_eq_true rfl) kX10_isOwn ksX10_isOwn JX10_isOwn 1 (fun t ht => ?_) hX10_isOwn jnX10_isOwn (JIX10_isOwn  Q QX) (LIX10_isOwn ) (fun n t ln σ' ht hj hI => ?_) (fun m t ln σ' ht hj hI => ?_) (pX10_isOwn_0  Q QX a1 σ h0)
  · cases ht
  · cases ht
  · cases ht
def JX10_isSame : Nat → Bool := fun t => Nat.beq t 11
def jnX10_isSame : Nat → Bool := fun t => false && Nat.beq t 0
def hX10_isSame : Nat → List Nat := fun t => bif Nat.beq t 11 then [0, 1, 2, 3, 5] else []
def PX10_isSame_11 (K11 : Int32 → Int32 → Int32 → Int32 → zS → Prop) (Q : Option Value → zS → Prop) (QX : zS → Prop) (x1 : Int32) (x2 : Int32) (x3 : Int32) (x5 : Int32) (σ : zS) : Prop :=
  ((x2 ≤ x5 →
    ((1 : Int32) = 0 ∨ (1 : Int32) = 1) ∧ Q (some (.int (1 : Int32))) σ) ∧ (¬ x2 ≤ x5 →
    vp_in (x1 + x5) 32000 ∧
    vp_in (x3 + x5) 32000 ∧
    (((σ.1 4 (x1 + x5).toNatClampNeg) = (σ.1 4 (x3 + x5).toNatClampNeg) →
      K11 x1 x2 x3 (x5 + 1) σ) ∧ (¬ (σ.1 4 (x1 + x5).toNatClampNeg) = (σ.1 4 (x3 + x5).toNatClampNeg) →
      ((0 : Int32) = 0 ∨ (0 : Int32) = 1) ∧ Q (some (.int (0 : Int32))) σ))))
def PX10_isSame_0 (K11 : Int32 → Int32 → Int32 → Int32 → zS → Prop) (Q : Option Value → zS → Prop) (QX : zS → Prop) (a1 : Int32) (a2 : Int32) (a3 : Int32) (a4 : Int32) (σ : zS) : Prop :=
  ((a2 = a4 →
    K11 a1 a2 a3 (0 : Int32) σ) ∧ (¬ a2 = a4 →
    ((0 : Int32) = 0 ∨ (0 : Int32) = 1) ∧ Q (some (.int (0 : Int32))) σ))
def LIX10_isSame (I11 : Nat → Int32 → Int32 → Int32 → Int32 → zS → Prop) : Nat → Nat → zLo → zS → Prop := fun t n l τ => bif Nat.beq t 11 then zdR 0 0 (zdI 1 (fun x1 => zdI 2 (fun x2 => zdI 3 (fun x3 => zdI 5 (fun x5 => zdN (I11 n x1 x2 x3 x5 τ)))))) l else False
def JIX10_isSame (I11 : Nat → Int32 → Int32 → Int32 → Int32 → zS → Prop) (Q : Option Value → zS → Prop) (QX : zS → Prop) : Nat → Option Nat → zLo → zS → Prop := fun t n l τ => False
set_option maxRecDepth 50000 in
theorem pX10_isSame_0 (I11 : Nat → Int32 → Int32 → Int32 → Int32 → zS → Prop) (Q : Option Value → zS → Prop) (QX : zS → Prop)  (a1 : Int32) (a2 : Int32) (a3 : Int32) (a4 : Int32) (σ : zS) (h : PX10_isSame_0 (fun y1 y2 y3 y5 τ => ∃ n', zlt n' none ∧ I11 n' y1 y2 y3 y5 τ) Q QX a1 a2 a3 a4 σ) : zwp JX10_isSame (zB hX10_isSame (zKt jnX10_isSame (JIX10_isSame I11 Q QX) (LIX10_isSame I11) none 0)) Q QX kX10_isSame 0 (lv_args 0 [.ref 0, .int a1, .int a2, .int a3, .int a4]) [] σ := h
set_option maxRecDepth 50000 in
theorem pX10_isSame_11 (I11 : Nat → Int32 → Int32 → Int32 → Int32 → zS → Prop) (Q : Option Value → zS → Prop) (QX : zS → Prop) (m : Nat) (x1 : Int32) (x2 : Int32) (x3 : Int32) (x5 : Int32) (σ : zS) (h : PX10_isSame_11 (fun y1 y2 y3 y5 τ => ∃ n', zlt n' (some m) ∧ I11 n' y1 y2 y3 y5 τ) Q QX x1 x2 x3 x5 σ) : zwp JX10_isSame (zB hX10_isSame (zKt jnX10_isSame (JIX10_isSame I11 Q QX) (LIX10_isSame I11) (some m) 11)) Q QX kX10_isSame 11 [(0, .ref 0), (1, .int x1), (2, .int x2), (3, .int x3), (5, .int x5)] [] σ := h
set_option maxRecDepth 50000 in
theorem rX10_isSame {Q : Option Value → zS → Prop} {QX : zS → Prop} {a1 : Int32} {a2 : Int32} {a3 : Int32} {a4 : Int32} {σ : zS} (I11 : Nat → Int32 → Int32 → Int32 → Int32 → zS → Prop) (hs11 : ∀ (m : Nat) (x1 : Int32) (x2 : Int32) (x3 : Int32) (x5 : Int32) (σ : zS), I11 m x1 x2 x3 x5 σ → PX10_isSame_11 (fun y1 y2 y3 y5 τ => ∃ n', zlt n' (some m) ∧ I11 n' y1 y2 y3 y5 τ) Q QX x1 x2 x3 x5 σ) (h0 : PX10_isSame_0 (fun y1 y2 y3 y5 τ => ∃ n', zlt n' none ∧ I11 n' y1 y2 y3 y5 τ) Q QX a1 a2 a3 a4 σ) : zCT zZM zmX10_isSame [.ref 0, .int a1, .int a2, .int a3, .int a4] σ Q QX := by
  refine zCT_of zZM_ok pnX10 (Nat.le_of_ble_eq_true rfl) kX10_isSame ksX10_isSame JX10_isSame 12 (fun t ht => ?_) hX10_isSame jnX10_isSame (JIX10_isSame I11 Q QX) (LIX10_isSame I11) (fun n t ln σ' ht hj hI => ?_) (fun m t ln σ' ht hj hI => ?_) (pX10_isSame_0 I11 Q QX a1 a2 a3 a4 σ h0)
  · have et := Nat.eq_of_beq_eq_true ht; subst et
    exact Nat.le_of_ble_eq_true rfl
  · have et := Nat.eq_of_beq_eq_true ht; subst et
    cases hj
  · have et := Nat.eq_of_beq_eq_true ht; subst et
    have hI : LIX10_isSame I11 11 m ln σ' := hI
    obtain ⟨l0, e0, hI⟩ := zdR_e (i := 0) (q := 0) hI; subst e0
    obtain ⟨x1, l1, e1, hI⟩ := zdI_e (i := 1) hI; subst e1
    obtain ⟨x2, l2, e2, hI⟩ := zdI_e (i := 2) hI; subst e2
    obtain ⟨x3, l3, e3, hI⟩ := zdI_e (i := 3) hI; subst e3
    obtain ⟨x5, l5, e5, hI⟩ := zdI_e (i := 5) hI; subst e5
    obtain ⟨e, hI⟩ := zdN_e hI; subst e
    exact pX10_isSame_11 I11 Q QX m x1 x2 x3 x5 σ' (hs11 m x1 x2 x3 x5 σ' hI)
def JX10_isStore : Nat → Bool := fun t => false && Nat.beq t 0
def jnX10_isStore : Nat → Bool := fun t => false && Nat.beq t 0
def hX10_isStore : Nat → List Nat := fun t => []
def PX10_isStore_0  (Q : Option Value → zS → Prop) (QX : zS → Prop) (a1 : Int32) (σ : zS) : Prop :=
  ((a1 = (54 : Int32) →
    ((1 : Int32) = 0 ∨ (1 : Int32) = 1) ∧ Q (some (.int (1 : Int32))) σ) ∧ (¬ a1 = (54 : Int32) →
    ((a1 = (55 : Int32) →
      ((1 : Int32) = 0 ∨ (1 : Int32) = 1) ∧ Q (some (.int (1 : Int32))) σ) ∧ (¬ a1 = (55 : Int32) →
      ((a1 < (58 : Int32) →
        ((0 : Int32) = 0 ∨ (0 : Int32) = 1) ∧ Q (some (.int (0 : Int32))) σ) ∧ (¬ a1 < (58 : Int32) →
        (((62 : Int32) < a1 →
          ((0 : Int32) = 0 ∨ (0 : Int32) = 1) ∧ Q (some (.int (0 : Int32))) σ) ∧ (¬ (62 : Int32) < a1 →
          ((1 : Int32) = 0 ∨ (1 : Int32) = 1) ∧ Q (some (.int (1 : Int32))) σ))))))))
def LIX10_isStore  : Nat → Nat → zLo → zS → Prop := fun t n l τ => False
def JIX10_isStore  (Q : Option Value → zS → Prop) (QX : zS → Prop) : Nat → Option Nat → zLo → zS → Prop := fun t n l τ => False
set_option maxRecDepth 50000 in
theorem pX10_isStore_0  (Q : Option Value → zS → Prop) (QX : zS → Prop)  (a1 : Int32) (σ : zS) (h : PX10_isStore_0  Q QX a1 σ) : zwp JX10_isStore (zB hX10_isStore (zKt jnX10_isStore (JIX10_isStore  Q QX) (LIX10_isStore ) none 0)) Q QX kX10_isStore 0 (lv_args 0 [.int a1]) [] σ := h
set_option maxRecDepth 50000 in
theorem rX10_isStore {Q : Option Value → zS → Prop} {QX : zS → Prop} {a1 : Int32} {σ : zS}   (h0 : PX10_isStore_0  Q QX a1 σ) : zCT zZM zmX10_isStore [.int a1] σ Q QX := by
  refine zCT_of zZM_ok pnX10 (Nat.le_of_ble_eq_true rfl) kX10_isStore ksX10_isStore JX10_isStore 1 (fun t ht => ?_) hX10_isStore jnX10_isStore (JIX10_isStore  Q QX) (LIX10_isStore ) (fun n t ln σ' ht hj hI => ?_) (fun m t ln σ' ht hj hI => ?_) (pX10_isStore_0  Q QX a1 σ h0)
  · cases ht
  · cases ht
  · cases ht
def JX10_need : Nat → Bool := fun t => false && Nat.beq t 0
def jnX10_need : Nat → Bool := fun t => false && Nat.beq t 0
def hX10_need : Nat → List Nat := fun t => []
def PX10_need_0  (Q : Option Value → zS → Prop) (QX : zS → Prop) (a1 : Int32) (σ : zS) : Prop :=
  (((σ.1 0 31) = 0 →
    ((0 : Int32) = 0 ∨ (0 : Int32) = 1) ∧ ∀ s1 : zS, s1 = zsI σ 0 31 (0 : Int32) →
    Q none s1) ∧ (¬ (σ.1 0 31) = 0 →
    ((a1 = 0 →
      ((0 : Int32) = 0 ∨ (0 : Int32) = 1) ∧ ∀ s2 : zS, s2 = zsI σ 0 31 (0 : Int32) →
      Q none s2) ∧ (¬ a1 = 0 →
      ((1 : Int32) = 0 ∨ (1 : Int32) = 1) ∧ ∀ s3 : zS, s3 = zsI σ 0 31 (1 : Int32) →
      Q none s3))))
def LIX10_need  : Nat → Nat → zLo → zS → Prop := fun t n l τ => False
def JIX10_need  (Q : Option Value → zS → Prop) (QX : zS → Prop) : Nat → Option Nat → zLo → zS → Prop := fun t n l τ => False
set_option maxRecDepth 50000 in
theorem pX10_need_0  (Q : Option Value → zS → Prop) (QX : zS → Prop)  (a1 : Int32) (σ : zS) (h : PX10_need_0  Q QX a1 σ) : zwp JX10_need (zB hX10_need (zKt jnX10_need (JIX10_need  Q QX) (LIX10_need ) none 0)) Q QX kX10_need 0 (lv_args 0 [.ref 0, .int a1]) [] σ := h
set_option maxRecDepth 50000 in
theorem rX10_need {Q : Option Value → zS → Prop} {QX : zS → Prop} {a1 : Int32} {σ : zS}   (h0 : PX10_need_0  Q QX a1 σ) : zCT zZM zmX10_need [.ref 0, .int a1] σ Q QX := by
  refine zCT_of zZM_ok pnX10 (Nat.le_of_ble_eq_true rfl) kX10_need ksX10_need JX10_need 1 (fun t ht => ?_) hX10_need jnX10_need (JIX10_need  Q QX) (LIX10_need ) (fun n t ln σ' ht hj hI => ?_) (fun m t ln σ' ht hj hI => ?_) (pX10_need_0  Q QX a1 σ h0)
  · cases ht
  · cases ht
  · cases ht
def JX10_openFrame : Nat → Bool := fun t => false && Nat.beq t 0
def jnX10_openFrame : Nat → Bool := fun t => false && Nat.beq t 0
def hX10_openFrame : Nat → List Nat := fun t => []
def PX10_openFrame_0  (Q : Option Value → zS → Prop) (QX : zS → Prop) (a1 : Int32) (a2 : Int32) (a3 : Int32) (σ : zS) : Prop :=
  vp_in (σ.1 0 28) 61 ∧ ∀ s1 : zS, s1 = zsI σ 11 (σ.1 0 28).toNatClampNeg a1 →
  vp_in (s1.1 0 28) 61 ∧ ∀ s2 : zS, s2 = zsI s1 8 (s1.1 0 28).toNatClampNeg a2 →
  vp_in (s2.1 0 28) 61 ∧ ∀ s3 : zS, s3 = zsI s2 9 (s2.1 0 28).toNatClampNeg a3 →
  vp_in (s3.1 0 28) 61 ∧ ∀ s4 : zS, s4 = zsI s3 10 (s3.1 0 28).toNatClampNeg (s3.1 0 22) →
  vp_in (s4.1 0 28) 61 ∧ ∀ s5 : zS, s5 = zsI s4 12 (s4.1 0 28).toNatClampNeg (vp_nar .boolean (0 : Int32)) →
  ∀ s6 : zS, s6 = zsI s5 0 28 ((s5.1 0 28) + (1 : Int32)) →
  Q none s6
def LIX10_openFrame  : Nat → Nat → zLo → zS → Prop := fun t n l τ => False
def JIX10_openFrame  (Q : Option Value → zS → Prop) (QX : zS → Prop) : Nat → Option Nat → zLo → zS → Prop := fun t n l τ => False
set_option maxRecDepth 50000 in
theorem pX10_openFrame_0  (Q : Option Value → zS → Prop) (QX : zS → Prop)  (a1 : Int32) (a2 : Int32) (a3 : Int32) (σ : zS) (h : PX10_openFrame_0  Q QX a1 a2 a3 σ) : zwp JX10_openFrame (zB hX10_openFrame (zKt jnX10_openFrame (JIX10_openFrame  Q QX) (LIX10_openFrame ) none 0)) Q QX kX10_openFrame 0 (lv_args 0 [.ref 0, .int a1, .int a2, .int a3]) [] σ := h
set_option maxRecDepth 50000 in
theorem rX10_openFrame {Q : Option Value → zS → Prop} {QX : zS → Prop} {a1 : Int32} {a2 : Int32} {a3 : Int32} {σ : zS}   (h0 : PX10_openFrame_0  Q QX a1 a2 a3 σ) : zCT zZM zmX10_openFrame [.ref 0, .int a1, .int a2, .int a3] σ Q QX := by
  refine zCT_of zZM_ok pnX10 (Nat.le_of_ble_eq_true rfl) kX10_openFrame ksX10_openFrame JX10_openFrame 1 (fun t ht => ?_) hX10_openFrame jnX10_openFrame (JIX10_openFrame  Q QX) (LIX10_openFrame ) (fun n t ln σ' ht hj hI => ?_) (fun m t ln σ' ht hj hI => ?_) (pX10_openFrame_0  Q QX a1 a2 a3 σ h0)
  · cases ht
  · cases ht
  · cases ht
def JX10_parameter : Nat → Bool := fun t => false && Nat.beq t 0
def jnX10_parameter : Nat → Bool := fun t => false && Nat.beq t 0
def hX10_parameter : Nat → List Nat := fun t => []
def PX10_parameter_0  (Q : Option Value → zS → Prop) (QX : zS → Prop) (a1 : Int32) (a2 : Int32) (σ : zS) : Prop :=
  Q (some (.int ((a1 >>> (((5 : Int32) + a2) &&& 31)) &&& (1 : Int32)))) σ
def LIX10_parameter  : Nat → Nat → zLo → zS → Prop := fun t n l τ => False
def JIX10_parameter  (Q : Option Value → zS → Prop) (QX : zS → Prop) : Nat → Option Nat → zLo → zS → Prop := fun t n l τ => False
set_option maxRecDepth 50000 in
theorem pX10_parameter_0  (Q : Option Value → zS → Prop) (QX : zS → Prop)  (a1 : Int32) (a2 : Int32) (σ : zS) (h : PX10_parameter_0  Q QX a1 a2 σ) : zwp JX10_parameter (zB hX10_parameter (zKt jnX10_parameter (JIX10_parameter  Q QX) (LIX10_parameter ) none 0)) Q QX kX10_parameter 0 (lv_args 0 [.int a1, .int a2]) [] σ := h
set_option maxRecDepth 50000 in
theorem rX10_parameter {Q : Option Value → zS → Prop} {QX : zS → Prop} {a1 : Int32} {a2 : Int32} {σ : zS}   (h0 : PX10_parameter_0  Q QX a1 a2 σ) : zCT zZM zmX10_parameter [.int a1, .int a2] σ Q QX := by
  refine zCT_of zZM_ok pnX10 (Nat.le_of_ble_eq_true rfl) kX10_parameter ksX10_parameter JX10_parameter 1 (fun t ht => ?_) hX10_parameter jnX10_parameter (JIX10_parameter  Q QX) (LIX10_parameter ) (fun n t ln σ' ht hj hI => ?_) (fun m t ln σ' ht hj hI => ?_) (pX10_parameter_0  Q QX a1 a2 σ h0)
  · cases ht
  · cases ht
  · cases ht
def JX10_parameters : Nat → Bool := fun t => false && Nat.beq t 0
def jnX10_parameters : Nat → Bool := fun t => false && Nat.beq t 0
def hX10_parameters : Nat → List Nat := fun t => []
def PX10_parameters_0  (Q : Option Value → zS → Prop) (QX : zS → Prop) (a1 : Int32) (σ : zS) : Prop :=
  Q (some (.int (a1 &&& (31 : Int32)))) σ
def LIX10_parameters  : Nat → Nat → zLo → zS → Prop := fun t n l τ => False
def JIX10_parameters  (Q : Option Value → zS → Prop) (QX : zS → Prop) : Nat → Option Nat → zLo → zS → Prop := fun t n l τ => False
set_option maxRecDepth 50000 in
theorem pX10_parameters_0  (Q : Option Value → zS → Prop) (QX : zS → Prop)  (a1 : Int32) (σ : zS) (h : PX10_parameters_0  Q QX a1 σ) : zwp JX10_parameters (zB hX10_parameters (zKt jnX10_parameters (JIX10_parameters  Q QX) (LIX10_parameters ) none 0)) Q QX kX10_parameters 0 (lv_args 0 [.int a1]) [] σ := h
set_option maxRecDepth 50000 in
theorem rX10_parameters {Q : Option Value → zS → Prop} {QX : zS → Prop} {a1 : Int32} {σ : zS}   (h0 : PX10_parameters_0  Q QX a1 σ) : zCT zZM zmX10_parameters [.int a1] σ Q QX := by
  refine zCT_of zZM_ok pnX10 (Nat.le_of_ble_eq_true rfl) kX10_parameters ksX10_parameters JX10_parameters 1 (fun t ht => ?_) hX10_parameters jnX10_parameters (JIX10_parameters  Q QX) (LIX10_parameters ) (fun n t ln σ' ht hj hI => ?_) (fun m t ln σ' ht hj hI => ?_) (pX10_parameters_0  Q QX a1 σ h0)
  · cases ht
  · cases ht
  · cases ht
def JX10_place : Nat → Bool := fun t => false && Nat.beq t 0
def jnX10_place : Nat → Bool := fun t => false && Nat.beq t 0
def hX10_place : Nat → List Nat := fun t => []
def PX10_place_0  (Q : Option Value → zS → Prop) (QX : zS → Prop)  (σ : zS) : Prop :=
  Q (some (.int (σ.1 0 7))) σ
def LIX10_place  : Nat → Nat → zLo → zS → Prop := fun t n l τ => False
def JIX10_place  (Q : Option Value → zS → Prop) (QX : zS → Prop) : Nat → Option Nat → zLo → zS → Prop := fun t n l τ => False
set_option maxRecDepth 50000 in
theorem pX10_place_0  (Q : Option Value → zS → Prop) (QX : zS → Prop)   (σ : zS) (h : PX10_place_0  Q QX  σ) : zwp JX10_place (zB hX10_place (zKt jnX10_place (JIX10_place  Q QX) (LIX10_place ) none 0)) Q QX kX10_place 0 (lv_args 0 [.ref 0]) [] σ := h
set_option maxRecDepth 50000 in
theorem rX10_place {Q : Option Value → zS → Prop} {QX : zS → Prop}  {σ : zS}   (h0 : PX10_place_0  Q QX  σ) : zCT zZM zmX10_place [.ref 0] σ Q QX := by
  refine zCT_of zZM_ok pnX10 (Nat.le_of_ble_eq_true rfl) kX10_place ksX10_place JX10_place 1 (fun t ht => ?_) hX10_place jnX10_place (JIX10_place  Q QX) (LIX10_place ) (fun n t ln σ' ht hj hI => ?_) (fun m t ln σ' ht hj hI => ?_) (pX10_place_0  Q QX  σ h0)
  · cases ht
  · cases ht
  · cases ht
def JX10_rest : Nat → Bool := fun t => false && Nat.beq t 0
def jnX10_rest : Nat → Bool := fun t => false && Nat.beq t 0
def hX10_rest : Nat → List Nat := fun t => []
def PX10_rest_0  (Q : Option Value → zS → Prop) (QX : zS → Prop)  (σ : zS) : Prop :=
  vp_in ((σ.1 0 28) - (1 : Int32)) 61 ∧
  ∀ s1 : zS, s1 = zsI σ 0 22 (σ.1 10 ((σ.1 0 28) - (1 : Int32)).toNatClampNeg) →
  vp_in ((s1.1 0 28) - (1 : Int32)) 61 ∧ ∀ s2 : zS, s2 = zsI s1 12 ((s1.1 0 28) - (1 : Int32)).toNatClampNeg (vp_nar .boolean (1 : Int32)) →
  Q none s2
def LIX10_rest  : Nat → Nat → zLo → zS → Prop := fun t n l τ => False
def JIX10_rest  (Q : Option Value → zS → Prop) (QX : zS → Prop) : Nat → Option Nat → zLo → zS → Prop := fun t n l τ => False
set_option maxRecDepth 50000 in
theorem pX10_rest_0  (Q : Option Value → zS → Prop) (QX : zS → Prop)   (σ : zS) (h : PX10_rest_0  Q QX  σ) : zwp JX10_rest (zB hX10_rest (zKt jnX10_rest (JIX10_rest  Q QX) (LIX10_rest ) none 0)) Q QX kX10_rest 0 (lv_args 0 [.ref 0]) [] σ := h
set_option maxRecDepth 50000 in
theorem rX10_rest {Q : Option Value → zS → Prop} {QX : zS → Prop}  {σ : zS}   (h0 : PX10_rest_0  Q QX  σ) : zCT zZM zmX10_rest [.ref 0] σ Q QX := by
  refine zCT_of zZM_ok pnX10 (Nat.le_of_ble_eq_true rfl) kX10_rest ksX10_rest JX10_rest 1 (fun t ht => ?_) hX10_rest jnX10_rest (JIX10_rest  Q QX) (LIX10_rest ) (fun n t ln σ' ht hj hI => ?_) (fun m t ln σ' ht hj hI => ?_) (pX10_rest_0  Q QX  σ h0)
  · cases ht
  · cases ht
  · cases ht
def JX10_resultOf : Nat → Bool := fun t => false && Nat.beq t 0
def jnX10_resultOf : Nat → Bool := fun t => false && Nat.beq t 0
def hX10_resultOf : Nat → List Nat := fun t => []
def PX10_resultOf_0  (Q : Option Value → zS → Prop) (QX : zS → Prop) (a1 : Int32) (σ : zS) : Prop :=
  Q (some (.int (a1 >>> ((21 : Int32) &&& 31)))) σ
def LIX10_resultOf  : Nat → Nat → zLo → zS → Prop := fun t n l τ => False
def JIX10_resultOf  (Q : Option Value → zS → Prop) (QX : zS → Prop) : Nat → Option Nat → zLo → zS → Prop := fun t n l τ => False
set_option maxRecDepth 50000 in
theorem pX10_resultOf_0  (Q : Option Value → zS → Prop) (QX : zS → Prop)  (a1 : Int32) (σ : zS) (h : PX10_resultOf_0  Q QX a1 σ) : zwp JX10_resultOf (zB hX10_resultOf (zKt jnX10_resultOf (JIX10_resultOf  Q QX) (LIX10_resultOf ) none 0)) Q QX kX10_resultOf 0 (lv_args 0 [.int a1]) [] σ := h
set_option maxRecDepth 50000 in
theorem rX10_resultOf {Q : Option Value → zS → Prop} {QX : zS → Prop} {a1 : Int32} {σ : zS}   (h0 : PX10_resultOf_0  Q QX a1 σ) : zCT zZM zmX10_resultOf [.int a1] σ Q QX := by
  refine zCT_of zZM_ok pnX10 (Nat.le_of_ble_eq_true rfl) kX10_resultOf ksX10_resultOf JX10_resultOf 1 (fun t ht => ?_) hX10_resultOf jnX10_resultOf (JIX10_resultOf  Q QX) (LIX10_resultOf ) (fun n t ln σ' ht hj hI => ?_) (fun m t ln σ' ht hj hI => ?_) (pX10_resultOf_0  Q QX a1 σ h0)
  · cases ht
  · cases ht
  · cases ht
def JX10_takes : Nat → Bool := fun t => false && Nat.beq t 0
def jnX10_takes : Nat → Bool := fun t => false && Nat.beq t 0
def hX10_takes : Nat → List Nat := fun t => []
def PX10_takes_0  (Q : Option Value → zS → Prop) (QX : zS → Prop) (a1 : Int32) (σ : zS) : Prop :=
  ((a1 = (2 : Int32) →
    Q (some (.int (2 : Int32))) σ) ∧ (¬ a1 = (2 : Int32) →
    vp_in ((σ.1 0 28) - (1 : Int32)) 61 ∧
    (((σ.1 0 22) = (σ.1 10 ((σ.1 0 28) - (1 : Int32)).toNatClampNeg) →
      (((σ.1 0 31) = 0 →
        ((0 : Int32) = 0 ∨ (0 : Int32) = 1) ∧ ∀ s1 : zS, s1 = zsI σ 0 31 (0 : Int32) →
        Q (some (.int (3 : Int32))) s1) ∧ (¬ (σ.1 0 31) = 0 →
        vp_in ((σ.1 0 28) - (1 : Int32)) 61 ∧
        (((σ.1 12 ((σ.1 0 28) - (1 : Int32)).toNatClampNeg) = 0 →
          ((0 : Int32) = 0 ∨ (0 : Int32) = 1) ∧ ∀ s2 : zS, s2 = zsI σ 0 31 (0 : Int32) →
          Q (some (.int (3 : Int32))) s2) ∧ (¬ (σ.1 12 ((σ.1 0 28) - (1 : Int32)).toNatClampNeg) = 0 →
          ((1 : Int32) = 0 ∨ (1 : Int32) = 1) ∧ ∀ s3 : zS, s3 = zsI σ 0 31 (1 : Int32) →
          Q (some (.int (3 : Int32))) s3))))) ∧ (¬ (σ.1 0 22) = (σ.1 10 ((σ.1 0 28) - (1 : Int32)).toNatClampNeg) →
      ∀ s4 : zS, s4 = zsI σ 0 22 ((σ.1 0 22) - (1 : Int32)) →
      vp_in (s4.1 0 22) 32000 ∧
      (((s4.1 0 31) = 0 →
        ((0 : Int32) = 0 ∨ (0 : Int32) = 1) ∧ ∀ s5 : zS, s5 = zsI s4 0 31 (0 : Int32) →
        Q (some (.int (s4.1 7 (s4.1 0 22).toNatClampNeg))) s5) ∧ (¬ (s4.1 0 31) = 0 →
        (((s4.1 7 (s4.1 0 22).toNatClampNeg) = a1 →
          ((1 : Int32) = 0 ∨ (1 : Int32) = 1) ∧ ∀ s6 : zS, s6 = zsI s4 0 31 (1 : Int32) →
          Q (some (.int (s4.1 7 (s4.1 0 22).toNatClampNeg))) s6) ∧ (¬ (s4.1 7 (s4.1 0 22).toNatClampNeg) = a1 →
          (((s4.1 7 (s4.1 0 22).toNatClampNeg) = (3 : Int32) →
            ((1 : Int32) = 0 ∨ (1 : Int32) = 1) ∧ ∀ s7 : zS, s7 = zsI s4 0 31 (1 : Int32) →
            Q (some (.int (s4.1 7 (s4.1 0 22).toNatClampNeg))) s7) ∧ (¬ (s4.1 7 (s4.1 0 22).toNatClampNeg) = (3 : Int32) →
            ((a1 = (3 : Int32) →
              ((1 : Int32) = 0 ∨ (1 : Int32) = 1) ∧ ∀ s8 : zS, s8 = zsI s4 0 31 (1 : Int32) →
              Q (some (.int (s4.1 7 (s4.1 0 22).toNatClampNeg))) s8) ∧ (¬ a1 = (3 : Int32) →
              ((0 : Int32) = 0 ∨ (0 : Int32) = 1) ∧ ∀ s9 : zS, s9 = zsI s4 0 31 (0 : Int32) →
              Q (some (.int (s4.1 7 (s4.1 0 22).toNatClampNeg))) s9))))))))))))
def LIX10_takes  : Nat → Nat → zLo → zS → Prop := fun t n l τ => False
def JIX10_takes  (Q : Option Value → zS → Prop) (QX : zS → Prop) : Nat → Option Nat → zLo → zS → Prop := fun t n l τ => False
set_option maxRecDepth 50000 in
theorem pX10_takes_0  (Q : Option Value → zS → Prop) (QX : zS → Prop)  (a1 : Int32) (σ : zS) (h : PX10_takes_0  Q QX a1 σ) : zwp JX10_takes (zB hX10_takes (zKt jnX10_takes (JIX10_takes  Q QX) (LIX10_takes ) none 0)) Q QX kX10_takes 0 (lv_args 0 [.ref 0, .int a1]) [] σ := h
set_option maxRecDepth 50000 in
theorem rX10_takes {Q : Option Value → zS → Prop} {QX : zS → Prop} {a1 : Int32} {σ : zS}   (h0 : PX10_takes_0  Q QX a1 σ) : zCT zZM zmX10_takes [.ref 0, .int a1] σ Q QX := by
  refine zCT_of zZM_ok pnX10 (Nat.le_of_ble_eq_true rfl) kX10_takes ksX10_takes JX10_takes 1 (fun t ht => ?_) hX10_takes jnX10_takes (JIX10_takes  Q QX) (LIX10_takes ) (fun n t ln σ' ht hj hI => ?_) (fun m t ln σ' ht hj hI => ?_) (pX10_takes_0  Q QX a1 σ h0)
  · cases ht
  · cases ht
  · cases ht
def JX10_valueType : Nat → Bool := fun t => false && Nat.beq t 0
def jnX10_valueType : Nat → Bool := fun t => false && Nat.beq t 0
def hX10_valueType : Nat → List Nat := fun t => []
def PX10_valueType_0  (Q : Option Value → zS → Prop) (QX : zS → Prop) (a1 : Int32) (σ : zS) : Prop :=
  ((a1 = (40 : Int32) →
    Q (some (.int (0 : Int32))) σ) ∧ (¬ a1 = (40 : Int32) →
    ((a1 < (44 : Int32) →
      ((a1 = (54 : Int32) →
        Q (some (.int (0 : Int32))) σ) ∧ (¬ a1 = (54 : Int32) →
        ((a1 = (58 : Int32) →
          Q (some (.int (0 : Int32))) σ) ∧ (¬ a1 = (58 : Int32) →
          ((a1 = (59 : Int32) →
            Q (some (.int (0 : Int32))) σ) ∧ (¬ a1 = (59 : Int32) →
            Q (some (.int (1 : Int32))) σ))))))) ∧ (¬ a1 < (44 : Int32) →
      ((a1 ≤ (47 : Int32) →
        Q (some (.int (0 : Int32))) σ) ∧ (¬ a1 ≤ (47 : Int32) →
        ((a1 = (54 : Int32) →
          Q (some (.int (0 : Int32))) σ) ∧ (¬ a1 = (54 : Int32) →
          ((a1 = (58 : Int32) →
            Q (some (.int (0 : Int32))) σ) ∧ (¬ a1 = (58 : Int32) →
            ((a1 = (59 : Int32) →
              Q (some (.int (0 : Int32))) σ) ∧ (¬ a1 = (59 : Int32) →
              Q (some (.int (1 : Int32))) σ))))))))))))
def LIX10_valueType  : Nat → Nat → zLo → zS → Prop := fun t n l τ => False
def JIX10_valueType  (Q : Option Value → zS → Prop) (QX : zS → Prop) : Nat → Option Nat → zLo → zS → Prop := fun t n l τ => False
set_option maxRecDepth 50000 in
theorem pX10_valueType_0  (Q : Option Value → zS → Prop) (QX : zS → Prop)  (a1 : Int32) (σ : zS) (h : PX10_valueType_0  Q QX a1 σ) : zwp JX10_valueType (zB hX10_valueType (zKt jnX10_valueType (JIX10_valueType  Q QX) (LIX10_valueType ) none 0)) Q QX kX10_valueType 0 (lv_args 0 [.int a1]) [] σ := h
set_option maxRecDepth 50000 in
theorem rX10_valueType {Q : Option Value → zS → Prop} {QX : zS → Prop} {a1 : Int32} {σ : zS}   (h0 : PX10_valueType_0  Q QX a1 σ) : zCT zZM zmX10_valueType [.int a1] σ Q QX := by
  refine zCT_of zZM_ok pnX10 (Nat.le_of_ble_eq_true rfl) kX10_valueType ksX10_valueType JX10_valueType 1 (fun t ht => ?_) hX10_valueType jnX10_valueType (JIX10_valueType  Q QX) (LIX10_valueType ) (fun n t ln σ' ht hj hI => ?_) (fun m t ln σ' ht hj hI => ?_) (pX10_valueType_0  Q QX a1 σ h0)
  · cases ht
  · cases ht
  · cases ht
def JX10_width : Nat → Bool := fun t => false && Nat.beq t 0
def jnX10_width : Nat → Bool := fun t => false && Nat.beq t 0
def hX10_width : Nat → List Nat := fun t => []
def PX10_width_0  (Q : Option Value → zS → Prop) (QX : zS → Prop) (a1 : Int32) (σ : zS) : Prop :=
  ((zin a1 [40, 52, 53, 54, 62] →
    Q (some (.int (2 : Int32))) σ) ∧ (¬ zin a1 [40, 52, 53, 54, 62] →
  ((zin a1 [41, 55] →
    Q (some (.int (3 : Int32))) σ) ∧ (¬ zin a1 [41, 55] →
  ((zin a1 [46, 47, 50, 51, 59, 61] →
    Q (some (.int (1 : Int32))) σ) ∧ (¬ zin a1 [46, 47, 50, 51, 59, 61] →
    Q (some (.int (0 : Int32))) σ))))))
def LIX10_width  : Nat → Nat → zLo → zS → Prop := fun t n l τ => False
def JIX10_width  (Q : Option Value → zS → Prop) (QX : zS → Prop) : Nat → Option Nat → zLo → zS → Prop := fun t n l τ => False
set_option maxRecDepth 50000 in
theorem pX10_width_0  (Q : Option Value → zS → Prop) (QX : zS → Prop)  (a1 : Int32) (σ : zS) (h : PX10_width_0  Q QX a1 σ) : zwp JX10_width (zB hX10_width (zKt jnX10_width (JIX10_width  Q QX) (LIX10_width ) none 0)) Q QX kX10_width 0 (lv_args 0 [.int a1]) [] σ := h
set_option maxRecDepth 50000 in
theorem rX10_width {Q : Option Value → zS → Prop} {QX : zS → Prop} {a1 : Int32} {σ : zS}   (h0 : PX10_width_0  Q QX a1 σ) : zCT zZM zmX10_width [.int a1] σ Q QX := by
  refine zCT_of zZM_ok pnX10 (Nat.le_of_ble_eq_true rfl) kX10_width ksX10_width JX10_width 1 (fun t ht => ?_) hX10_width jnX10_width (JIX10_width  Q QX) (LIX10_width ) (fun n t ln σ' ht hj hI => ?_) (fun m t ln σ' ht hj hI => ?_) (pX10_width_0  Q QX a1 σ h0)
  · cases ht
  · cases ht
  · cases ht
def JX10_word : Nat → Bool := fun t => Nat.beq t 2
def jnX10_word : Nat → Bool := fun t => false && Nat.beq t 0
def hX10_word : Nat → List Nat := fun t => bif Nat.beq t 2 then [0, 1, 2] else []
def PX10_word_2 (K2 : Int32 → Int32 → zS → Prop) (Q : Option Value → zS → Prop) (QX : zS → Prop) (x1 : Int32) (x2 : Int32) (σ : zS) : Prop :=
  ((x2 < 0 →
    Q none σ) ∧ (¬ x2 < 0 →
    vp_in (σ.1 0 5) 16000 ∧ ∀ s1 : zS, s1 = zsI σ 5 (σ.1 0 5).toNatClampNeg (vp_nar .byte ((x1 >>> (((8 : Int32) * x2) &&& 31)).toInt8.toInt32)) →
    ∀ s2 : zS, s2 = zsI s1 0 5 ((s1.1 0 5) + (1 : Int32)) →
    K2 x1 (x2 + (-1)) s2))
def PX10_word_0 (K2 : Int32 → Int32 → zS → Prop) (Q : Option Value → zS → Prop) (QX : zS → Prop) (a1 : Int32) (σ : zS) : Prop :=
  K2 a1 (3 : Int32) σ
def LIX10_word (I2 : Nat → Int32 → Int32 → zS → Prop) : Nat → Nat → zLo → zS → Prop := fun t n l τ => bif Nat.beq t 2 then zdR 0 0 (zdI 1 (fun x1 => zdI 2 (fun x2 => zdN (I2 n x1 x2 τ)))) l else False
def JIX10_word (I2 : Nat → Int32 → Int32 → zS → Prop) (Q : Option Value → zS → Prop) (QX : zS → Prop) : Nat → Option Nat → zLo → zS → Prop := fun t n l τ => False
set_option maxRecDepth 50000 in
theorem pX10_word_0 (I2 : Nat → Int32 → Int32 → zS → Prop) (Q : Option Value → zS → Prop) (QX : zS → Prop)  (a1 : Int32) (σ : zS) (h : PX10_word_0 (fun y1 y2 τ => ∃ n', zlt n' none ∧ I2 n' y1 y2 τ) Q QX a1 σ) : zwp JX10_word (zB hX10_word (zKt jnX10_word (JIX10_word I2 Q QX) (LIX10_word I2) none 0)) Q QX kX10_word 0 (lv_args 0 [.ref 0, .int a1]) [] σ := h
set_option maxRecDepth 50000 in
theorem pX10_word_2 (I2 : Nat → Int32 → Int32 → zS → Prop) (Q : Option Value → zS → Prop) (QX : zS → Prop) (m : Nat) (x1 : Int32) (x2 : Int32) (σ : zS) (h : PX10_word_2 (fun y1 y2 τ => ∃ n', zlt n' (some m) ∧ I2 n' y1 y2 τ) Q QX x1 x2 σ) : zwp JX10_word (zB hX10_word (zKt jnX10_word (JIX10_word I2 Q QX) (LIX10_word I2) (some m) 2)) Q QX kX10_word 2 [(0, .ref 0), (1, .int x1), (2, .int x2)] [] σ := h
set_option maxRecDepth 50000 in
theorem rX10_word {Q : Option Value → zS → Prop} {QX : zS → Prop} {a1 : Int32} {σ : zS} (I2 : Nat → Int32 → Int32 → zS → Prop) (hs2 : ∀ (m : Nat) (x1 : Int32) (x2 : Int32) (σ : zS), I2 m x1 x2 σ → PX10_word_2 (fun y1 y2 τ => ∃ n', zlt n' (some m) ∧ I2 n' y1 y2 τ) Q QX x1 x2 σ) (h0 : PX10_word_0 (fun y1 y2 τ => ∃ n', zlt n' none ∧ I2 n' y1 y2 τ) Q QX a1 σ) : zCT zZM zmX10_word [.ref 0, .int a1] σ Q QX := by
  refine zCT_of zZM_ok pnX10 (Nat.le_of_ble_eq_true rfl) kX10_word ksX10_word JX10_word 3 (fun t ht => ?_) hX10_word jnX10_word (JIX10_word I2 Q QX) (LIX10_word I2) (fun n t ln σ' ht hj hI => ?_) (fun m t ln σ' ht hj hI => ?_) (pX10_word_0 I2 Q QX a1 σ h0)
  · have et := Nat.eq_of_beq_eq_true ht; subst et
    exact Nat.le_of_ble_eq_true rfl
  · have et := Nat.eq_of_beq_eq_true ht; subst et
    cases hj
  · have et := Nat.eq_of_beq_eq_true ht; subst et
    have hI : LIX10_word I2 2 m ln σ' := hI
    obtain ⟨l0, e0, hI⟩ := zdR_e (i := 0) (q := 0) hI; subst e0
    obtain ⟨x1, l1, e1, hI⟩ := zdI_e (i := 1) hI; subst e1
    obtain ⟨x2, l2, e2, hI⟩ := zdI_e (i := 2) hI; subst e2
    obtain ⟨e, hI⟩ := zdN_e hI; subst e
    exact pX10_word_2 I2 Q QX m x1 x2 σ' (hs2 m x1 x2 σ' hI)
def JX10_wrong : Nat → Bool := fun t => false && Nat.beq t 0
def jnX10_wrong : Nat → Bool := fun t => false && Nat.beq t 0
def hX10_wrong : Nat → List Nat := fun t => []
def PX10_wrong_0  (Q : Option Value → zS → Prop) (QX : zS → Prop) (a1 : Int32) (a2 : Int32) (σ : zS) : Prop :=
  ∀ s1 : zS, s1 = zsI σ 0 10 a1 →
  ∀ s2 : zS, s2 = zsI s1 0 11 a2 →
  Q (some (.ref 3)) s2
def LIX10_wrong  : Nat → Nat → zLo → zS → Prop := fun t n l τ => False
def JIX10_wrong  (Q : Option Value → zS → Prop) (QX : zS → Prop) : Nat → Option Nat → zLo → zS → Prop := fun t n l τ => False
set_option maxRecDepth 50000 in
theorem pX10_wrong_0  (Q : Option Value → zS → Prop) (QX : zS → Prop)  (a1 : Int32) (a2 : Int32) (σ : zS) (h : PX10_wrong_0  Q QX a1 a2 σ) : zwp JX10_wrong (zB hX10_wrong (zKt jnX10_wrong (JIX10_wrong  Q QX) (LIX10_wrong ) none 0)) Q QX kX10_wrong 0 (lv_args 0 [.ref 0, .int a1, .int a2]) [] σ := h
set_option maxRecDepth 50000 in
theorem rX10_wrong {Q : Option Value → zS → Prop} {QX : zS → Prop} {a1 : Int32} {a2 : Int32} {σ : zS}   (h0 : PX10_wrong_0  Q QX a1 a2 σ) : zCT zZM zmX10_wrong [.ref 0, .int a1, .int a2] σ Q QX := by
  refine zCT_of zZM_ok pnX10 (Nat.le_of_ble_eq_true rfl) kX10_wrong ksX10_wrong JX10_wrong 1 (fun t ht => ?_) hX10_wrong jnX10_wrong (JIX10_wrong  Q QX) (LIX10_wrong ) (fun n t ln σ' ht hj hI => ?_) (fun m t ln σ' ht hj hI => ?_) (pX10_wrong_0  Q QX a1 a2 σ h0)
  · cases ht
  · cases ht
  · cases ht
def JX9_has : Nat → Bool := fun t => false && Nat.beq t 0
def jnX9_has : Nat → Bool := fun t => false && Nat.beq t 0
def hX9_has : Nat → List Nat := fun t => []
def PX9_has_0  (Q : Option Value → zS → Prop) (QX : zS → Prop) (a1 : Int32) (σ : zS) : Prop :=
  vp_in a1 4 ∧
  ((a1 = (1 : Int32) →
    ((((σ.1 55 a1.toNatClampNeg) + (σ.1 1 12)) ≤ 0 →
      ((0 : Int32) = 0 ∨ (0 : Int32) = 1) ∧ Q (some (.int (0 : Int32))) σ) ∧ (¬ ((σ.1 55 a1.toNatClampNeg) + (σ.1 1 12)) ≤ 0 →
      ((1 : Int32) = 0 ∨ (1 : Int32) = 1) ∧ Q (some (.int (1 : Int32))) σ))) ∧ (¬ a1 = (1 : Int32) →
    ((((σ.1 55 a1.toNatClampNeg) + (σ.1 1 13)) ≤ 0 →
      ((0 : Int32) = 0 ∨ (0 : Int32) = 1) ∧ Q (some (.int (0 : Int32))) σ) ∧ (¬ ((σ.1 55 a1.toNatClampNeg) + (σ.1 1 13)) ≤ 0 →
      ((1 : Int32) = 0 ∨ (1 : Int32) = 1) ∧ Q (some (.int (1 : Int32))) σ))))
def LIX9_has  : Nat → Nat → zLo → zS → Prop := fun t n l τ => False
def JIX9_has  (Q : Option Value → zS → Prop) (QX : zS → Prop) : Nat → Option Nat → zLo → zS → Prop := fun t n l τ => False
set_option maxRecDepth 50000 in
theorem pX9_has_0  (Q : Option Value → zS → Prop) (QX : zS → Prop)  (a1 : Int32) (σ : zS) (h : PX9_has_0  Q QX a1 σ) : zwp JX9_has (zB hX9_has (zKt jnX9_has (JIX9_has  Q QX) (LIX9_has ) none 0)) Q QX kX9_has 0 (lv_args 0 [.ref 1, .int a1]) [] σ := h
set_option maxRecDepth 50000 in
theorem rX9_has {Q : Option Value → zS → Prop} {QX : zS → Prop} {a1 : Int32} {σ : zS}   (h0 : PX9_has_0  Q QX a1 σ) : zCT zZM zmX9_has [.ref 1, .int a1] σ Q QX := by
  refine zCT_of zZM_ok pnX9 (Nat.le_of_ble_eq_true rfl) kX9_has ksX9_has JX9_has 1 (fun t ht => ?_) hX9_has jnX9_has (JIX9_has  Q QX) (LIX9_has ) (fun n t ln σ' ht hj hI => ?_) (fun m t ln σ' ht hj hI => ?_) (pX9_has_0  Q QX a1 σ h0)
  · cases ht
  · cases ht
  · cases ht
def JX10_calls : Nat → Bool := fun t => Nat.beq t 7
def jnX10_calls : Nat → Bool := fun t => false && Nat.beq t 0
def hX10_calls : Nat → List Nat := fun t => bif Nat.beq t 7 then [0, 1, 2] else []
def PX10_calls_7 (K7 : Int32 → Int32 → zS → Prop) (Q : Option Value → zS → Prop) (QX : zS → Prop) (x1 : Int32) (x2 : Int32) (σ : zS) : Prop :=
  ((x2 < 0 →
    zCT zZM zmX10_resultOf [.int x1] σ (zQi (fun r2 s1 =>
      zCT zZM zmX10_gives [.ref 0, .int r2] s1 (zQv (fun s3 =>
        Q none s3)) QX)) QX) ∧ (¬ x2 < 0 →
    zCT zZM zmX10_parameter [.int x1, .int x2] σ (zQi (fun r5 s4 =>
      zCT zZM zmX10_takes [.ref 0, .int r5] s4 (zQi (fun r7 s6 =>
        K7 x1 (x2 + (-1)) s6)) QX)) QX))
def PX10_calls_0 (K7 : Int32 → Int32 → zS → Prop) (Q : Option Value → zS → Prop) (QX : zS → Prop) (a1 : Int32) (σ : zS) : Prop :=
  zCT zZM zmX10_parameters [.int a1] σ (zQi (fun r2 s1 =>
    K7 a1 (r2 - (1 : Int32)) s1)) QX
def LIX10_calls (I7 : Nat → Int32 → Int32 → zS → Prop) : Nat → Nat → zLo → zS → Prop := fun t n l τ => bif Nat.beq t 7 then zdR 0 0 (zdI 1 (fun x1 => zdI 2 (fun x2 => zdN (I7 n x1 x2 τ)))) l else False
def JIX10_calls (I7 : Nat → Int32 → Int32 → zS → Prop) (Q : Option Value → zS → Prop) (QX : zS → Prop) : Nat → Option Nat → zLo → zS → Prop := fun t n l τ => False
set_option maxRecDepth 50000 in
theorem pX10_calls_0 (I7 : Nat → Int32 → Int32 → zS → Prop) (Q : Option Value → zS → Prop) (QX : zS → Prop)  (a1 : Int32) (σ : zS) (h : PX10_calls_0 (fun y1 y2 τ => ∃ n', zlt n' none ∧ I7 n' y1 y2 τ) Q QX a1 σ) : zwp JX10_calls (zB hX10_calls (zKt jnX10_calls (JIX10_calls I7 Q QX) (LIX10_calls I7) none 0)) Q QX kX10_calls 0 (lv_args 0 [.ref 0, .int a1]) [] σ := h
set_option maxRecDepth 50000 in
theorem pX10_calls_7 (I7 : Nat → Int32 → Int32 → zS → Prop) (Q : Option Value → zS → Prop) (QX : zS → Prop) (m : Nat) (x1 : Int32) (x2 : Int32) (σ : zS) (h : PX10_calls_7 (fun y1 y2 τ => ∃ n', zlt n' (some m) ∧ I7 n' y1 y2 τ) Q QX x1 x2 σ) : zwp JX10_calls (zB hX10_calls (zKt jnX10_calls (JIX10_calls I7 Q QX) (LIX10_calls I7) (some m) 7)) Q QX kX10_calls 7 [(0, .ref 0), (1, .int x1), (2, .int x2)] [] σ := h
set_option maxRecDepth 50000 in
theorem rX10_calls {Q : Option Value → zS → Prop} {QX : zS → Prop} {a1 : Int32} {σ : zS} (I7 : Nat → Int32 → Int32 → zS → Prop) (hs7 : ∀ (m : Nat) (x1 : Int32) (x2 : Int32) (σ : zS), I7 m x1 x2 σ → PX10_calls_7 (fun y1 y2 τ => ∃ n', zlt n' (some m) ∧ I7 n' y1 y2 τ) Q QX x1 x2 σ) (h0 : PX10_calls_0 (fun y1 y2 τ => ∃ n', zlt n' none ∧ I7 n' y1 y2 τ) Q QX a1 σ) : zCT zZM zmX10_calls [.ref 0, .int a1] σ Q QX := by
  refine zCT_of zZM_ok pnX10 (Nat.le_of_ble_eq_true rfl) kX10_calls ksX10_calls JX10_calls 8 (fun t ht => ?_) hX10_calls jnX10_calls (JIX10_calls I7 Q QX) (LIX10_calls I7) (fun n t ln σ' ht hj hI => ?_) (fun m t ln σ' ht hj hI => ?_) (pX10_calls_0 I7 Q QX a1 σ h0)
  · have et := Nat.eq_of_beq_eq_true ht; subst et
    exact Nat.le_of_ble_eq_true rfl
  · have et := Nat.eq_of_beq_eq_true ht; subst et
    cases hj
  · have et := Nat.eq_of_beq_eq_true ht; subst et
    have hI : LIX10_calls I7 7 m ln σ' := hI
    obtain ⟨l0, e0, hI⟩ := zdR_e (i := 0) (q := 0) hI; subst e0
    obtain ⟨x1, l1, e1, hI⟩ := zdI_e (i := 1) hI; subst e1
    obtain ⟨x2, l2, e2, hI⟩ := zdI_e (i := 2) hI; subst e2
    obtain ⟨e, hI⟩ := zdN_e hI; subst e
    exact pX10_calls_7 I7 Q QX m x1 x2 σ' (hs7 m x1 x2 σ' hI)
def JX10_closes : Nat → Bool := fun t => false && Nat.beq t 0
def jnX10_closes : Nat → Bool := fun t => false && Nat.beq t 0
def hX10_closes : Nat → List Nat := fun t => []
def PX10_closes_0  (Q : Option Value → zS → Prop) (QX : zS → Prop)  (σ : zS) : Prop :=
  vp_in ((σ.1 0 28) - (1 : Int32)) 61 ∧
  zCT zZM zmX10_takes [.ref 0, .int (σ.1 9 ((σ.1 0 28) - (1 : Int32)).toNatClampNeg)] σ (zQi (fun r2 s1 =>
    vp_in ((s1.1 0 28) - (1 : Int32)) 61 ∧
    (((s1.1 0 22) = (s1.1 10 ((s1.1 0 28) - (1 : Int32)).toNatClampNeg) →
      zCT zZM zmX10_need [.ref 0, .int (1 : Int32)] s1 (zQv (fun s3 =>
        Q none s3)) QX) ∧ (¬ (s1.1 0 22) = (s1.1 10 ((s1.1 0 28) - (1 : Int32)).toNatClampNeg) →
      zCT zZM zmX10_need [.ref 0, .int (0 : Int32)] s1 (zQv (fun s4 =>
        Q none s4)) QX)))) QX
def LIX10_closes  : Nat → Nat → zLo → zS → Prop := fun t n l τ => False
def JIX10_closes  (Q : Option Value → zS → Prop) (QX : zS → Prop) : Nat → Option Nat → zLo → zS → Prop := fun t n l τ => False
set_option maxRecDepth 50000 in
theorem pX10_closes_0  (Q : Option Value → zS → Prop) (QX : zS → Prop)   (σ : zS) (h : PX10_closes_0  Q QX  σ) : zwp JX10_closes (zB hX10_closes (zKt jnX10_closes (JIX10_closes  Q QX) (LIX10_closes ) none 0)) Q QX kX10_closes 0 (lv_args 0 [.ref 0]) [] σ := h
set_option maxRecDepth 50000 in
theorem rX10_closes {Q : Option Value → zS → Prop} {QX : zS → Prop}  {σ : zS}   (h0 : PX10_closes_0  Q QX  σ) : zCT zZM zmX10_closes [.ref 0] σ Q QX := by
  refine zCT_of zZM_ok pnX10 (Nat.le_of_ble_eq_true rfl) kX10_closes ksX10_closes JX10_closes 1 (fun t ht => ?_) hX10_closes jnX10_closes (JIX10_closes  Q QX) (LIX10_closes ) (fun n t ln σ' ht hj hI => ?_) (fun m t ln σ' ht hj hI => ?_) (pX10_closes_0  Q QX  σ h0)
  · cases ht
  · cases ht
  · cases ht
def JX10_feed : Nat → Bool := fun t => false && Nat.beq t 0
def jnX10_feed : Nat → Bool := fun t => false && Nat.beq t 0
def hX10_feed : Nat → List Nat := fun t => []
def PX10_feed_0  (Q : Option Value → zS → Prop) (QX : zS → Prop) (a1 : Int32) (a2 : Int32) (a3 : Int32) (a4 : Int32) (a5 : Int32) (σ : zS) : Prop :=
  (((16000 : Int32) < ((σ.1 0 5) + (20 : Int32)) →
    Q (some (.int (-1 : Int32))) σ) ∧ (¬ (16000 : Int32) < ((σ.1 0 5) + (20 : Int32)) →
    ((((σ.1 0 6) + (20 : Int32)) ≤ (65536 : Int32) →
      zCT zZM zmX10_word [.ref 0, .int a1] σ (zQv (fun s1 =>
        zCT zZM zmX10_word [.ref 0, .int a2] s1 (zQv (fun s2 =>
          zCT zZM zmX10_word [.ref 0, .int a3] s2 (zQv (fun s3 =>
            zCT zZM zmX10_word [.ref 0, .int a4] s3 (zQv (fun s4 =>
              zCT zZM zmX10_word [.ref 0, .int a5] s4 (zQv (fun s5 =>
                ∀ s6 : zS, s6 = zsI s5 0 6 ((s5.1 0 6) + (20 : Int32)) →
                Q (some (.int (s6.1 0 5))) s6)) QX)) QX)) QX)) QX)) QX) ∧ (¬ ((σ.1 0 6) + (20 : Int32)) ≤ (65536 : Int32) →
      Q (some (.int (-1 : Int32))) σ))))
def LIX10_feed  : Nat → Nat → zLo → zS → Prop := fun t n l τ => False
def JIX10_feed  (Q : Option Value → zS → Prop) (QX : zS → Prop) : Nat → Option Nat → zLo → zS → Prop := fun t n l τ => False
set_option maxRecDepth 50000 in
theorem pX10_feed_0  (Q : Option Value → zS → Prop) (QX : zS → Prop)  (a1 : Int32) (a2 : Int32) (a3 : Int32) (a4 : Int32) (a5 : Int32) (σ : zS) (h : PX10_feed_0  Q QX a1 a2 a3 a4 a5 σ) : zwp JX10_feed (zB hX10_feed (zKt jnX10_feed (JIX10_feed  Q QX) (LIX10_feed ) none 0)) Q QX kX10_feed 0 (lv_args 0 [.ref 0, .int a1, .int a2, .int a3, .int a4, .int a5]) [] σ := h
set_option maxRecDepth 50000 in
theorem rX10_feed {Q : Option Value → zS → Prop} {QX : zS → Prop} {a1 : Int32} {a2 : Int32} {a3 : Int32} {a4 : Int32} {a5 : Int32} {σ : zS}   (h0 : PX10_feed_0  Q QX a1 a2 a3 a4 a5 σ) : zCT zZM zmX10_feed [.ref 0, .int a1, .int a2, .int a3, .int a4, .int a5] σ Q QX := by
  refine zCT_of zZM_ok pnX10 (Nat.le_of_ble_eq_true rfl) kX10_feed ksX10_feed JX10_feed 1 (fun t ht => ?_) hX10_feed jnX10_feed (JIX10_feed  Q QX) (LIX10_feed ) (fun n t ln σ' ht hj hI => ?_) (fun m t ln σ' ht hj hI => ?_) (pX10_feed_0  Q QX a1 a2 a3 a4 a5 σ h0)
  · cases ht
  · cases ht
  · cases ht
def JX10_follows : Nat → Bool := fun t => Nat.beq t 75 || Nat.beq t 152 || Nat.beq t 165 || Nat.beq t 202
def jnX10_follows : Nat → Bool := fun t => Nat.beq t 75 || Nat.beq t 152 || Nat.beq t 165 || Nat.beq t 202
def hX10_follows : Nat → List Nat := fun t => bif Nat.beq t 75 then [0] else bif Nat.beq t 152 then [0] else bif Nat.beq t 165 then [0] else bif Nat.beq t 202 then [0] else []
def PX10_follows_202  (Q : Option Value → zS → Prop) (QX : zS → Prop) (x0 : Int32) (σ : zS) : Prop :=
  ((x0 = (252 : Int32) →
    Q (some (.int (9 : Int32))) σ) ∧ (¬ x0 = (252 : Int32) →
    Q (some (.int (-1 : Int32))) σ))
def PX10_follows_165  (Q : Option Value → zS → Prop) (QX : zS → Prop) (x0 : Int32) (σ : zS) : Prop :=
  ((x0 = (167 : Int32) →
    Q (some (.int (0 : Int32))) σ) ∧ (¬ x0 = (167 : Int32) →
    ((x0 = (172 : Int32) →
      Q (some (.int (0 : Int32))) σ) ∧ (¬ x0 = (172 : Int32) →
      ((x0 = (173 : Int32) →
        Q (some (.int (0 : Int32))) σ) ∧ (¬ x0 = (173 : Int32) →
        ((x0 < (192 : Int32) →
          PX10_follows_202 Q QX x0 σ) ∧ (¬ x0 < (192 : Int32) →
          (((196 : Int32) < x0 →
            PX10_follows_202 Q QX x0 σ) ∧ (¬ (196 : Int32) < x0 →
            Q (some (.int (0 : Int32))) σ))))))))))
def PX10_follows_152  (Q : Option Value → zS → Prop) (QX : zS → Prop) (x0 : Int32) (σ : zS) : Prop :=
  ((x0 < (103 : Int32) →
    PX10_follows_165 Q QX x0 σ) ∧ (¬ x0 < (103 : Int32) →
    ((x0 ≤ (138 : Int32) →
      Q (some (.int (0 : Int32))) σ) ∧ (¬ x0 ≤ (138 : Int32) →
      PX10_follows_165 Q QX x0 σ))))
def PX10_follows_75  (Q : Option Value → zS → Prop) (QX : zS → Prop) (x0 : Int32) (σ : zS) : Prop :=
  ((x0 = (14 : Int32) →
    Q (some (.int (8 : Int32))) σ) ∧ (¬ x0 = (14 : Int32) →
    ((x0 = (17 : Int32) →
      Q (some (.int (6 : Int32))) σ) ∧ (¬ x0 = (17 : Int32) →
      zCT zZM zmX10_isLoad [.int x0] σ (zQi (fun r2 s1 =>
        ((r2 = 0 →
          zCT zZM zmX10_isStore [.int x0] s1 (zQi (fun r4 s3 =>
            ((r4 = 0 →
              ((x0 = (63 : Int32) →
                Q (some (.int (7 : Int32))) s3) ∧ (¬ x0 = (63 : Int32) →
                ((x0 = (64 : Int32) →
                  Q (some (.int (7 : Int32))) s3) ∧ (¬ x0 = (64 : Int32) →
                  ((x0 = (65 : Int32) →
                    Q (some (.int (3 : Int32))) s3) ∧ (¬ x0 = (65 : Int32) →
                    ((x0 = (66 : Int32) →
                      Q (some (.int (4 : Int32))) s3) ∧ (¬ x0 = (66 : Int32) →
                      ((x0 < (69 : Int32) →
                        PX10_follows_152 Q QX x0 s3) ∧ (¬ x0 < (69 : Int32) →
                        ((x0 ≤ (90 : Int32) →
                          Q (some (.int (0 : Int32))) s3) ∧ (¬ x0 ≤ (90 : Int32) →
                          PX10_follows_152 Q QX x0 s3))))))))))))) ∧ (¬ r4 = 0 →
              Q (some (.int (5 : Int32))) s3)))) QX) ∧ (¬ r2 = 0 →
          Q (some (.int (5 : Int32))) s1)))) QX))))
def PX10_follows_0  (Q : Option Value → zS → Prop) (QX : zS → Prop) (a1 : Int32) (σ : zS) : Prop :=
  ((a1 ≤ (1 : Int32) →
    Q (some (.int (0 : Int32))) σ) ∧ (¬ a1 ≤ (1 : Int32) →
    ((a1 = (5 : Int32) →
      Q (some (.int (0 : Int32))) σ) ∧ (¬ a1 = (5 : Int32) →
      ((a1 = (11 : Int32) →
        Q (some (.int (0 : Int32))) σ) ∧ (¬ a1 = (11 : Int32) →
        ((a1 = (15 : Int32) →
          Q (some (.int (0 : Int32))) σ) ∧ (¬ a1 = (15 : Int32) →
          ((a1 = (26 : Int32) →
            Q (some (.int (0 : Int32))) σ) ∧ (¬ a1 = (26 : Int32) →
            ((a1 = (27 : Int32) →
              Q (some (.int (0 : Int32))) σ) ∧ (¬ a1 = (27 : Int32) →
              (((4 : Int32) < a1 →
                ((a1 = (12 : Int32) →
                  Q (some (.int (2 : Int32))) σ) ∧ (¬ a1 = (12 : Int32) →
                  ((a1 = (13 : Int32) →
                    Q (some (.int (2 : Int32))) σ) ∧ (¬ a1 = (13 : Int32) →
                    ((a1 = (16 : Int32) →
                      Q (some (.int (2 : Int32))) σ) ∧ (¬ a1 = (16 : Int32) →
                      ((a1 < (32 : Int32) →
                        PX10_follows_75 Q QX a1 σ) ∧ (¬ a1 < (32 : Int32) →
                        (((36 : Int32) < a1 →
                          PX10_follows_75 Q QX a1 σ) ∧ (¬ (36 : Int32) < a1 →
                          Q (some (.int (2 : Int32))) σ))))))))))) ∧ (¬ (4 : Int32) < a1 →
                Q (some (.int (1 : Int32))) σ))))))))))))))
def LIX10_follows  : Nat → Nat → zLo → zS → Prop := fun t n l τ => False
def JIX10_follows  (Q : Option Value → zS → Prop) (QX : zS → Prop) : Nat → Option Nat → zLo → zS → Prop := fun t n l τ => bif Nat.beq t 75 then zdI 0 (fun x0 => zdN (PX10_follows_75  Q QX x0 τ)) l else bif Nat.beq t 152 then zdI 0 (fun x0 => zdN (PX10_follows_152  Q QX x0 τ)) l else bif Nat.beq t 165 then zdI 0 (fun x0 => zdN (PX10_follows_165  Q QX x0 τ)) l else bif Nat.beq t 202 then zdI 0 (fun x0 => zdN (PX10_follows_202  Q QX x0 τ)) l else False
set_option maxRecDepth 50000 in
theorem pX10_follows_0  (Q : Option Value → zS → Prop) (QX : zS → Prop)  (a1 : Int32) (σ : zS) (h : PX10_follows_0  Q QX a1 σ) : zwp JX10_follows (zB hX10_follows (zKt jnX10_follows (JIX10_follows  Q QX) (LIX10_follows ) none 0)) Q QX kX10_follows 0 (lv_args 0 [.int a1]) [] σ := h
set_option maxRecDepth 50000 in
theorem pX10_follows_75  (Q : Option Value → zS → Prop) (QX : zS → Prop) (n : Option Nat) (x0 : Int32) (σ : zS) (h : PX10_follows_75  Q QX x0 σ) : zwp JX10_follows (zB hX10_follows (zKt jnX10_follows (JIX10_follows  Q QX) (LIX10_follows ) n 75)) Q QX kX10_follows 75 [(0, .int x0)] [] σ := h
set_option maxRecDepth 50000 in
theorem pX10_follows_152  (Q : Option Value → zS → Prop) (QX : zS → Prop) (n : Option Nat) (x0 : Int32) (σ : zS) (h : PX10_follows_152  Q QX x0 σ) : zwp JX10_follows (zB hX10_follows (zKt jnX10_follows (JIX10_follows  Q QX) (LIX10_follows ) n 152)) Q QX kX10_follows 152 [(0, .int x0)] [] σ := h
set_option maxRecDepth 50000 in
theorem pX10_follows_165  (Q : Option Value → zS → Prop) (QX : zS → Prop) (n : Option Nat) (x0 : Int32) (σ : zS) (h : PX10_follows_165  Q QX x0 σ) : zwp JX10_follows (zB hX10_follows (zKt jnX10_follows (JIX10_follows  Q QX) (LIX10_follows ) n 165)) Q QX kX10_follows 165 [(0, .int x0)] [] σ := h
set_option maxRecDepth 50000 in
theorem pX10_follows_202  (Q : Option Value → zS → Prop) (QX : zS → Prop) (n : Option Nat) (x0 : Int32) (σ : zS) (h : PX10_follows_202  Q QX x0 σ) : zwp JX10_follows (zB hX10_follows (zKt jnX10_follows (JIX10_follows  Q QX) (LIX10_follows ) n 202)) Q QX kX10_follows 202 [(0, .int x0)] [] σ := h
set_option maxRecDepth 50000 in
theorem rX10_follows {Q : Option Value → zS → Prop} {QX : zS → Prop} {a1 : Int32} {σ : zS}   (h0 : PX10_follows_0  Q QX a1 σ) : zCT zZM zmX10_follows [.int a1] σ Q QX := by
  refine zCT_of zZM_ok pnX10 (Nat.le_of_ble_eq_true rfl) kX10_follows ksX10_follows JX10_follows 203 (fun t ht => ?_) hX10_follows jnX10_follows (JIX10_follows  Q QX) (LIX10_follows ) (fun n t ln σ' ht hj hI => ?_) (fun m t ln σ' ht hj hI => ?_) (pX10_follows_0  Q QX a1 σ h0)
  · refine zor ht (fun ht => ?_) (fun ht => ?_)
    · skip
      refine zor ht (fun ht => ?_) (fun ht => ?_)
      · skip
        refine zor ht (fun ht => ?_) (fun ht => ?_)
        · skip
          have et := Nat.eq_of_beq_eq_true ht; subst et
          exact Nat.le_of_ble_eq_true rfl
        · skip
          have et := Nat.eq_of_beq_eq_true ht; subst et
          exact Nat.le_of_ble_eq_true rfl
      · skip
        have et := Nat.eq_of_beq_eq_true ht; subst et
        exact Nat.le_of_ble_eq_true rfl
    · skip
      have et := Nat.eq_of_beq_eq_true ht; subst et
      exact Nat.le_of_ble_eq_true rfl
  · refine zor ht (fun ht => ?_) (fun ht => ?_)
    · skip
      refine zor ht (fun ht => ?_) (fun ht => ?_)
      · skip
        refine zor ht (fun ht => ?_) (fun ht => ?_)
        · skip
          have et := Nat.eq_of_beq_eq_true ht; subst et
          have hI : JIX10_follows  Q QX 75 n ln σ' := hI
          obtain ⟨x0, l0, e0, hI⟩ := zdI_e (i := 0) hI; subst e0
          obtain ⟨e, hI⟩ := zdN_e hI; subst e
          exact pX10_follows_75  Q QX n x0 σ' hI
        · skip
          have et := Nat.eq_of_beq_eq_true ht; subst et
          have hI : JIX10_follows  Q QX 152 n ln σ' := hI
          obtain ⟨x0, l0, e0, hI⟩ := zdI_e (i := 0) hI; subst e0
          obtain ⟨e, hI⟩ := zdN_e hI; subst e
          exact pX10_follows_152  Q QX n x0 σ' hI
      · skip
        have et := Nat.eq_of_beq_eq_true ht; subst et
        have hI : JIX10_follows  Q QX 165 n ln σ' := hI
        obtain ⟨x0, l0, e0, hI⟩ := zdI_e (i := 0) hI; subst e0
        obtain ⟨e, hI⟩ := zdN_e hI; subst e
        exact pX10_follows_165  Q QX n x0 σ' hI
    · skip
      have et := Nat.eq_of_beq_eq_true ht; subst et
      have hI : JIX10_follows  Q QX 202 n ln σ' := hI
      obtain ⟨x0, l0, e0, hI⟩ := zdI_e (i := 0) hI; subst e0
      obtain ⟨e, hI⟩ := zdN_e hI; subst e
      exact pX10_follows_202  Q QX n x0 σ' hI
  · refine zor ht (fun ht => ?_) (fun ht => ?_)
    · skip
      refine zor ht (fun ht => ?_) (fun ht => ?_)
      · skip
        refine zor ht (fun ht => ?_) (fun ht => ?_)
        · skip
          have et := Nat.eq_of_beq_eq_true ht; subst et
          cases hj
        · skip
          have et := Nat.eq_of_beq_eq_true ht; subst et
          cases hj
      · skip
        have et := Nat.eq_of_beq_eq_true ht; subst et
        cases hj
    · skip
      have et := Nat.eq_of_beq_eq_true ht; subst et
      cases hj
def JX10_isChanged : Nat → Bool := fun t => false && Nat.beq t 0
def jnX10_isChanged : Nat → Bool := fun t => false && Nat.beq t 0
def hX10_isChanged : Nat → List Nat := fun t => []
def PX10_isChanged_0  (Q : Option Value → zS → Prop) (QX : zS → Prop) (a1 : Int32) (σ : zS) : Prop :=
  vp_in (3 : Int32) 4 ∧
  (((σ.1 55 (3 : Int32).toNatClampNeg) ≤ a1 →
    vp_in (a1 - (σ.1 55 (3 : Int32).toNatClampNeg)) 32 ∧
    ((σ.1 34 (a1 - (σ.1 55 (3 : Int32).toNatClampNeg)).toNatClampNeg) = 0 ∨ (σ.1 34 (a1 - (σ.1 55 (3 : Int32).toNatClampNeg)).toNatClampNeg) = 1) ∧ Q (some (.int (σ.1 34 (a1 - (σ.1 55 (3 : Int32).toNatClampNeg)).toNatClampNeg))) σ) ∧ (¬ (σ.1 55 (3 : Int32).toNatClampNeg) ≤ a1 →
    zCT zZM zmX10_importOf [.ref 1, .int (3 : Int32), .int a1] σ (zQi (fun r2 s1 =>
      vp_in r2 32 ∧
      ((s1.1 28 r2.toNatClampNeg) = 0 ∨ (s1.1 28 r2.toNatClampNeg) = 1) ∧ Q (some (.int (s1.1 28 r2.toNatClampNeg))) s1)) QX))
def LIX10_isChanged  : Nat → Nat → zLo → zS → Prop := fun t n l τ => False
def JIX10_isChanged  (Q : Option Value → zS → Prop) (QX : zS → Prop) : Nat → Option Nat → zLo → zS → Prop := fun t n l τ => False
set_option maxRecDepth 50000 in
theorem pX10_isChanged_0  (Q : Option Value → zS → Prop) (QX : zS → Prop)  (a1 : Int32) (σ : zS) (h : PX10_isChanged_0  Q QX a1 σ) : zwp JX10_isChanged (zB hX10_isChanged (zKt jnX10_isChanged (JIX10_isChanged  Q QX) (LIX10_isChanged ) none 0)) Q QX kX10_isChanged 0 (lv_args 0 [.ref 1, .int a1]) [] σ := h
set_option maxRecDepth 50000 in
theorem rX10_isChanged {Q : Option Value → zS → Prop} {QX : zS → Prop} {a1 : Int32} {σ : zS}   (h0 : PX10_isChanged_0  Q QX a1 σ) : zCT zZM zmX10_isChanged [.ref 1, .int a1] σ Q QX := by
  refine zCT_of zZM_ok pnX10 (Nat.le_of_ble_eq_true rfl) kX10_isChanged ksX10_isChanged JX10_isChanged 1 (fun t ht => ?_) hX10_isChanged jnX10_isChanged (JIX10_isChanged  Q QX) (LIX10_isChanged ) (fun n t ln σ' ht hj hI => ?_) (fun m t ln σ' ht hj hI => ?_) (pX10_isChanged_0  Q QX a1 σ h0)
  · cases ht
  · cases ht
  · cases ht
def JX10_label : Nat → Bool := fun t => false && Nat.beq t 0
def jnX10_label : Nat → Bool := fun t => false && Nat.beq t 0
def hX10_label : Nat → List Nat := fun t => []
def PX10_label_0  (Q : Option Value → zS → Prop) (QX : zS → Prop) (a1 : Int64) (σ : zS) : Prop :=
  ((((σ.1 0 28).toInt64) ≤ a1 →
    zCT zZM zmX10_need [.ref 0, .int (0 : Int32)] σ (zQv (fun s1 =>
      ((((s1.1 0 28).toInt64) ≤ a1 →
        Q (some (.int (2 : Int32))) s1) ∧ (¬ ((s1.1 0 28).toInt64) ≤ a1 →
        vp_in (((s1.1 0 28) - (1 : Int32)) - (a1.toInt32)) 61 ∧
        Q (some (.int (s1.1 8 (((s1.1 0 28) - (1 : Int32)) - (a1.toInt32)).toNatClampNeg))) s1)))) QX) ∧ (¬ ((σ.1 0 28).toInt64) ≤ a1 →
    zCT zZM zmX10_need [.ref 0, .int (1 : Int32)] σ (zQv (fun s2 =>
      ((((s2.1 0 28).toInt64) ≤ a1 →
        Q (some (.int (2 : Int32))) s2) ∧ (¬ ((s2.1 0 28).toInt64) ≤ a1 →
        vp_in (((s2.1 0 28) - (1 : Int32)) - (a1.toInt32)) 61 ∧
        Q (some (.int (s2.1 8 (((s2.1 0 28) - (1 : Int32)) - (a1.toInt32)).toNatClampNeg))) s2)))) QX))
def LIX10_label  : Nat → Nat → zLo → zS → Prop := fun t n l τ => False
def JIX10_label  (Q : Option Value → zS → Prop) (QX : zS → Prop) : Nat → Option Nat → zLo → zS → Prop := fun t n l τ => False
set_option maxRecDepth 50000 in
theorem pX10_label_0  (Q : Option Value → zS → Prop) (QX : zS → Prop)  (a1 : Int64) (σ : zS) (h : PX10_label_0  Q QX a1 σ) : zwp JX10_label (zB hX10_label (zKt jnX10_label (JIX10_label  Q QX) (LIX10_label ) none 0)) Q QX kX10_label 0 (lv_args 0 [.ref 0, .long a1]) [] σ := h
set_option maxRecDepth 50000 in
theorem rX10_label {Q : Option Value → zS → Prop} {QX : zS → Prop} {a1 : Int64} {σ : zS}   (h0 : PX10_label_0  Q QX a1 σ) : zCT zZM zmX10_label [.ref 0, .long a1] σ Q QX := by
  refine zCT_of zZM_ok pnX10 (Nat.le_of_ble_eq_true rfl) kX10_label ksX10_label JX10_label 1 (fun t ht => ?_) hX10_label jnX10_label (JIX10_label  Q QX) (LIX10_label ) (fun n t ln σ' ht hj hI => ?_) (fun m t ln σ' ht hj hI => ?_) (pX10_label_0  Q QX a1 σ h0)
  · cases ht
  · cases ht
  · cases ht
def JX10_must : Nat → Bool := fun t => false && Nat.beq t 0
def jnX10_must : Nat → Bool := fun t => false && Nat.beq t 0
def hX10_must : Nat → List Nat := fun t => []
def PX10_must_0  (Q : Option Value → zS → Prop) (QX : zS → Prop) (a1 : Int32) (a2 : Int32) (σ : zS) : Prop :=
  ((a1 = 0 →
    zCT zZM zmX10_wrong [.ref 0, .int (2 : Int32), .int a2] σ (zQr (fun r2 s1 =>
      o_athrow zYM 2 Q QX (fun _ _ _ _ => False) [] [.ref r2] s1)) QX) ∧ (¬ a1 = 0 →
    Q none σ))
def LIX10_must  : Nat → Nat → zLo → zS → Prop := fun t n l τ => False
def JIX10_must  (Q : Option Value → zS → Prop) (QX : zS → Prop) : Nat → Option Nat → zLo → zS → Prop := fun t n l τ => False
set_option maxRecDepth 50000 in
theorem pX10_must_0  (Q : Option Value → zS → Prop) (QX : zS → Prop)  (a1 : Int32) (a2 : Int32) (σ : zS) (h : PX10_must_0  Q QX a1 a2 σ) : zwp JX10_must (zB hX10_must (zKt jnX10_must (JIX10_must  Q QX) (LIX10_must ) none 0)) Q QX kX10_must 0 (lv_args 0 [.ref 0, .int a1, .int a2]) [] σ := h
set_option maxRecDepth 50000 in
theorem rX10_must {Q : Option Value → zS → Prop} {QX : zS → Prop} {a1 : Int32} {a2 : Int32} {σ : zS}   (h0 : PX10_must_0  Q QX a1 a2 σ) : zCT zZM zmX10_must [.ref 0, .int a1, .int a2] σ Q QX := by
  refine zCT_of zZM_ok pnX10 (Nat.le_of_ble_eq_true rfl) kX10_must ksX10_must JX10_must 1 (fun t ht => ?_) hX10_must jnX10_must (JIX10_must  Q QX) (LIX10_must ) (fun n t ln σ' ht hj hI => ?_) (fun m t ln σ' ht hj hI => ?_) (pX10_must_0  Q QX a1 a2 σ h0)
  · cases ht
  · cases ht
  · cases ht
def JX10_octet : Nat → Bool := fun t => false && Nat.beq t 0
def jnX10_octet : Nat → Bool := fun t => false && Nat.beq t 0
def hX10_octet : Nat → List Nat := fun t => []
def PX10_octet_0  (Q : Option Value → zS → Prop) (QX : zS → Prop)  (σ : zS) : Prop :=
  (((σ.1 0 12) = (σ.1 0 13) →
    zCT zZM zmX10_wrong [.ref 0, .int (1 : Int32), .int (σ.1 0 13)] σ (zQr (fun r2 s1 =>
      o_athrow zYM 2 Q QX (fun _ _ _ _ => False) [] [.ref r2] s1)) QX) ∧ (¬ (σ.1 0 12) = (σ.1 0 13) →
    ∀ s3 : zS, s3 = zsI σ 0 12 ((σ.1 0 12) + (1 : Int32)) →
    vp_in ((s3.1 0 12) - (1 : Int32)) 32000 ∧
    Q (some (.int ((s3.1 4 ((s3.1 0 12) - (1 : Int32)).toNatClampNeg) &&& (255 : Int32)))) s3))
def LIX10_octet  : Nat → Nat → zLo → zS → Prop := fun t n l τ => False
def JIX10_octet  (Q : Option Value → zS → Prop) (QX : zS → Prop) : Nat → Option Nat → zLo → zS → Prop := fun t n l τ => False
set_option maxRecDepth 50000 in
theorem pX10_octet_0  (Q : Option Value → zS → Prop) (QX : zS → Prop)   (σ : zS) (h : PX10_octet_0  Q QX  σ) : zwp JX10_octet (zB hX10_octet (zKt jnX10_octet (JIX10_octet  Q QX) (LIX10_octet ) none 0)) Q QX kX10_octet 0 (lv_args 0 [.ref 0]) [] σ := h
set_option maxRecDepth 50000 in
theorem rX10_octet {Q : Option Value → zS → Prop} {QX : zS → Prop}  {σ : zS}   (h0 : PX10_octet_0  Q QX  σ) : zCT zZM zmX10_octet [.ref 0] σ Q QX := by
  refine zCT_of zZM_ok pnX10 (Nat.le_of_ble_eq_true rfl) kX10_octet ksX10_octet JX10_octet 1 (fun t ht => ?_) hX10_octet jnX10_octet (JIX10_octet  Q QX) (LIX10_octet ) (fun n t ln σ' ht hj hI => ?_) (fun m t ln σ' ht hj hI => ?_) (pX10_octet_0  Q QX  σ h0)
  · cases ht
  · cases ht
  · cases ht
def JX10_sigOf : Nat → Bool := fun t => false && Nat.beq t 0
def jnX10_sigOf : Nat → Bool := fun t => false && Nat.beq t 0
def hX10_sigOf : Nat → List Nat := fun t => []
def PX10_sigOf_0  (Q : Option Value → zS → Prop) (QX : zS → Prop) (a1 : Int32) (σ : zS) : Prop :=
  vp_in (0 : Int32) 4 ∧
  (((σ.1 55 (0 : Int32).toNatClampNeg) ≤ a1 →
    vp_in (a1 - (σ.1 55 (0 : Int32).toNatClampNeg)) 64 ∧
    vp_in ((σ.2 31 (a1 - (σ.1 55 (0 : Int32).toNatClampNeg)).toNatClampNeg).toInt32) 64 ∧
    Q (some (.int (σ.1 19 ((σ.2 31 (a1 - (σ.1 55 (0 : Int32).toNatClampNeg)).toNatClampNeg).toInt32).toNatClampNeg))) σ) ∧ (¬ (σ.1 55 (0 : Int32).toNatClampNeg) ≤ a1 →
    zCT zZM zmX10_importOf [.ref 1, .int (0 : Int32), .int a1] σ (zQi (fun r2 s1 =>
      vp_in r2 32 ∧
      vp_in ((s1.2 25 r2.toNatClampNeg).toInt32) 64 ∧
      Q (some (.int (s1.1 19 ((s1.2 25 r2.toNatClampNeg).toInt32).toNatClampNeg))) s1)) QX))
def LIX10_sigOf  : Nat → Nat → zLo → zS → Prop := fun t n l τ => False
def JIX10_sigOf  (Q : Option Value → zS → Prop) (QX : zS → Prop) : Nat → Option Nat → zLo → zS → Prop := fun t n l τ => False
set_option maxRecDepth 50000 in
theorem pX10_sigOf_0  (Q : Option Value → zS → Prop) (QX : zS → Prop)  (a1 : Int32) (σ : zS) (h : PX10_sigOf_0  Q QX a1 σ) : zwp JX10_sigOf (zB hX10_sigOf (zKt jnX10_sigOf (JIX10_sigOf  Q QX) (LIX10_sigOf ) none 0)) Q QX kX10_sigOf 0 (lv_args 0 [.ref 1, .int a1]) [] σ := h
set_option maxRecDepth 50000 in
theorem rX10_sigOf {Q : Option Value → zS → Prop} {QX : zS → Prop} {a1 : Int32} {σ : zS}   (h0 : PX10_sigOf_0  Q QX a1 σ) : zCT zZM zmX10_sigOf [.ref 1, .int a1] σ Q QX := by
  refine zCT_of zZM_ok pnX10 (Nat.le_of_ble_eq_true rfl) kX10_sigOf ksX10_sigOf JX10_sigOf 1 (fun t ht => ?_) hX10_sigOf jnX10_sigOf (JIX10_sigOf  Q QX) (LIX10_sigOf ) (fun n t ln σ' ht hj hI => ?_) (fun m t ln σ' ht hj hI => ?_) (pX10_sigOf_0  Q QX a1 σ h0)
  · cases ht
  · cases ht
  · cases ht
def JX10_turns : Nat → Bool := fun t => Nat.beq t 3
def jnX10_turns : Nat → Bool := fun t => false && Nat.beq t 0
def hX10_turns : Nat → List Nat := fun t => bif Nat.beq t 3 then [0, 1, 2, 3, 4] else []
def PX10_turns_3 (K3 : Int32 → Int32 → Int32 → Int32 → zS → Prop) (Q : Option Value → zS → Prop) (QX : zS → Prop) (x1 : Int32) (x2 : Int32) (x3 : Int32) (x4 : Int32) (σ : zS) : Prop :=
  ((x2 ≤ x4 →
    zCT zZM zmX10_gives [.ref 0, .int x3] σ (zQv (fun s1 =>
      Q none s1)) QX) ∧ (¬ x2 ≤ x4 →
    zCT zZM zmX10_takes [.ref 0, .int x1] σ (zQi (fun r3 s2 =>
      K3 x1 x2 x3 (x4 + 1) s2)) QX))
def PX10_turns_0 (K3 : Int32 → Int32 → Int32 → Int32 → zS → Prop) (Q : Option Value → zS → Prop) (QX : zS → Prop) (a1 : Int32) (a2 : Int32) (a3 : Int32) (σ : zS) : Prop :=
  K3 a1 a2 a3 (0 : Int32) σ
def LIX10_turns (I3 : Nat → Int32 → Int32 → Int32 → Int32 → zS → Prop) : Nat → Nat → zLo → zS → Prop := fun t n l τ => bif Nat.beq t 3 then zdR 0 0 (zdI 1 (fun x1 => zdI 2 (fun x2 => zdI 3 (fun x3 => zdI 4 (fun x4 => zdN (I3 n x1 x2 x3 x4 τ)))))) l else False
def JIX10_turns (I3 : Nat → Int32 → Int32 → Int32 → Int32 → zS → Prop) (Q : Option Value → zS → Prop) (QX : zS → Prop) : Nat → Option Nat → zLo → zS → Prop := fun t n l τ => False
set_option maxRecDepth 50000 in
theorem pX10_turns_0 (I3 : Nat → Int32 → Int32 → Int32 → Int32 → zS → Prop) (Q : Option Value → zS → Prop) (QX : zS → Prop)  (a1 : Int32) (a2 : Int32) (a3 : Int32) (σ : zS) (h : PX10_turns_0 (fun y1 y2 y3 y4 τ => ∃ n', zlt n' none ∧ I3 n' y1 y2 y3 y4 τ) Q QX a1 a2 a3 σ) : zwp JX10_turns (zB hX10_turns (zKt jnX10_turns (JIX10_turns I3 Q QX) (LIX10_turns I3) none 0)) Q QX kX10_turns 0 (lv_args 0 [.ref 0, .int a1, .int a2, .int a3]) [] σ := h
set_option maxRecDepth 50000 in
theorem pX10_turns_3 (I3 : Nat → Int32 → Int32 → Int32 → Int32 → zS → Prop) (Q : Option Value → zS → Prop) (QX : zS → Prop) (m : Nat) (x1 : Int32) (x2 : Int32) (x3 : Int32) (x4 : Int32) (σ : zS) (h : PX10_turns_3 (fun y1 y2 y3 y4 τ => ∃ n', zlt n' (some m) ∧ I3 n' y1 y2 y3 y4 τ) Q QX x1 x2 x3 x4 σ) : zwp JX10_turns (zB hX10_turns (zKt jnX10_turns (JIX10_turns I3 Q QX) (LIX10_turns I3) (some m) 3)) Q QX kX10_turns 3 [(0, .ref 0), (1, .int x1), (2, .int x2), (3, .int x3), (4, .int x4)] [] σ := h
set_option maxRecDepth 50000 in
theorem rX10_turns {Q : Option Value → zS → Prop} {QX : zS → Prop} {a1 : Int32} {a2 : Int32} {a3 : Int32} {σ : zS} (I3 : Nat → Int32 → Int32 → Int32 → Int32 → zS → Prop) (hs3 : ∀ (m : Nat) (x1 : Int32) (x2 : Int32) (x3 : Int32) (x4 : Int32) (σ : zS), I3 m x1 x2 x3 x4 σ → PX10_turns_3 (fun y1 y2 y3 y4 τ => ∃ n', zlt n' (some m) ∧ I3 n' y1 y2 y3 y4 τ) Q QX x1 x2 x3 x4 σ) (h0 : PX10_turns_0 (fun y1 y2 y3 y4 τ => ∃ n', zlt n' none ∧ I3 n' y1 y2 y3 y4 τ) Q QX a1 a2 a3 σ) : zCT zZM zmX10_turns [.ref 0, .int a1, .int a2, .int a3] σ Q QX := by
  refine zCT_of zZM_ok pnX10 (Nat.le_of_ble_eq_true rfl) kX10_turns ksX10_turns JX10_turns 4 (fun t ht => ?_) hX10_turns jnX10_turns (JIX10_turns I3 Q QX) (LIX10_turns I3) (fun n t ln σ' ht hj hI => ?_) (fun m t ln σ' ht hj hI => ?_) (pX10_turns_0 I3 Q QX a1 a2 a3 σ h0)
  · have et := Nat.eq_of_beq_eq_true ht; subst et
    exact Nat.le_of_ble_eq_true rfl
  · have et := Nat.eq_of_beq_eq_true ht; subst et
    cases hj
  · have et := Nat.eq_of_beq_eq_true ht; subst et
    have hI : LIX10_turns I3 3 m ln σ' := hI
    obtain ⟨l0, e0, hI⟩ := zdR_e (i := 0) (q := 0) hI; subst e0
    obtain ⟨x1, l1, e1, hI⟩ := zdI_e (i := 1) hI; subst e1
    obtain ⟨x2, l2, e2, hI⟩ := zdI_e (i := 2) hI; subst e2
    obtain ⟨x3, l3, e3, hI⟩ := zdI_e (i := 3) hI; subst e3
    obtain ⟨x4, l4, e4, hI⟩ := zdI_e (i := 4) hI; subst e4
    obtain ⟨e, hI⟩ := zdN_e hI; subst e
    exact pX10_turns_3 I3 Q QX m x1 x2 x3 x4 σ' (hs3 m x1 x2 x3 x4 σ' hI)
def JX10_typeOf : Nat → Bool := fun t => false && Nat.beq t 0
def jnX10_typeOf : Nat → Bool := fun t => false && Nat.beq t 0
def hX10_typeOf : Nat → List Nat := fun t => []
def PX10_typeOf_0  (Q : Option Value → zS → Prop) (QX : zS → Prop) (a1 : Int32) (σ : zS) : Prop :=
  vp_in (3 : Int32) 4 ∧
  (((σ.1 55 (3 : Int32).toNatClampNeg) ≤ a1 →
    vp_in (a1 - (σ.1 55 (3 : Int32).toNatClampNeg)) 32 ∧
    Q (some (.int (σ.1 33 (a1 - (σ.1 55 (3 : Int32).toNatClampNeg)).toNatClampNeg))) σ) ∧ (¬ (σ.1 55 (3 : Int32).toNatClampNeg) ≤ a1 →
    zCT zZM zmX10_importOf [.ref 1, .int (3 : Int32), .int a1] σ (zQi (fun r2 s1 =>
      vp_in r2 32 ∧
      Q (some (.int ((s1.2 25 r2.toNatClampNeg).toInt32))) s1)) QX))
def LIX10_typeOf  : Nat → Nat → zLo → zS → Prop := fun t n l τ => False
def JIX10_typeOf  (Q : Option Value → zS → Prop) (QX : zS → Prop) : Nat → Option Nat → zLo → zS → Prop := fun t n l τ => False
set_option maxRecDepth 50000 in
theorem pX10_typeOf_0  (Q : Option Value → zS → Prop) (QX : zS → Prop)  (a1 : Int32) (σ : zS) (h : PX10_typeOf_0  Q QX a1 σ) : zwp JX10_typeOf (zB hX10_typeOf (zKt jnX10_typeOf (JIX10_typeOf  Q QX) (LIX10_typeOf ) none 0)) Q QX kX10_typeOf 0 (lv_args 0 [.ref 1, .int a1]) [] σ := h
set_option maxRecDepth 50000 in
theorem rX10_typeOf {Q : Option Value → zS → Prop} {QX : zS → Prop} {a1 : Int32} {σ : zS}   (h0 : PX10_typeOf_0  Q QX a1 σ) : zCT zZM zmX10_typeOf [.ref 1, .int a1] σ Q QX := by
  refine zCT_of zZM_ok pnX10 (Nat.le_of_ble_eq_true rfl) kX10_typeOf ksX10_typeOf JX10_typeOf 1 (fun t ht => ?_) hX10_typeOf jnX10_typeOf (JIX10_typeOf  Q QX) (LIX10_typeOf ) (fun n t ln σ' ht hj hI => ?_) (fun m t ln σ' ht hj hI => ?_) (pX10_typeOf_0  Q QX a1 σ h0)
  · cases ht
  · cases ht
  · cases ht
def JX10_blockType : Nat → Bool := fun t => false && Nat.beq t 0
def jnX10_blockType : Nat → Bool := fun t => false && Nat.beq t 0
def hX10_blockType : Nat → List Nat := fun t => []
def PX10_blockType_0  (Q : Option Value → zS → Prop) (QX : zS → Prop)  (σ : zS) : Prop :=
  zCT zZM zmX10_octet [.ref 0] σ (zQi (fun r2 s1 =>
    ((r2 = (64 : Int32) →
      ((r2 = (64 : Int32) →
        Q (some (.int (2 : Int32))) s1) ∧ (¬ r2 = (64 : Int32) →
        Q (some (.int ((127 : Int32) - r2))) s1))) ∧ (¬ r2 = (64 : Int32) →
      ((r2 = (127 : Int32) →
        ((r2 = (64 : Int32) →
          Q (some (.int (2 : Int32))) s1) ∧ (¬ r2 = (64 : Int32) →
          Q (some (.int ((127 : Int32) - r2))) s1))) ∧ (¬ r2 = (127 : Int32) →
        ((r2 = (126 : Int32) →
          ((r2 = (64 : Int32) →
            Q (some (.int (2 : Int32))) s1) ∧ (¬ r2 = (64 : Int32) →
            Q (some (.int ((127 : Int32) - r2))) s1))) ∧ (¬ r2 = (126 : Int32) →
          zCT zZM zmX10_wrong [.ref 0, .int (1 : Int32), .int (σ.1 0 12)] s1 (zQr (fun r4 s3 =>
            o_athrow zYM 2 Q QX (fun _ _ _ _ => False) [] [.ref r4] s3)) QX)))))))) QX
def LIX10_blockType  : Nat → Nat → zLo → zS → Prop := fun t n l τ => False
def JIX10_blockType  (Q : Option Value → zS → Prop) (QX : zS → Prop) : Nat → Option Nat → zLo → zS → Prop := fun t n l τ => False
set_option maxRecDepth 50000 in
theorem pX10_blockType_0  (Q : Option Value → zS → Prop) (QX : zS → Prop)   (σ : zS) (h : PX10_blockType_0  Q QX  σ) : zwp JX10_blockType (zB hX10_blockType (zKt jnX10_blockType (JIX10_blockType  Q QX) (LIX10_blockType ) none 0)) Q QX kX10_blockType 0 (lv_args 0 [.ref 0]) [] σ := h
set_option maxRecDepth 50000 in
theorem rX10_blockType {Q : Option Value → zS → Prop} {QX : zS → Prop}  {σ : zS}   (h0 : PX10_blockType_0  Q QX  σ) : zCT zZM zmX10_blockType [.ref 0] σ Q QX := by
  refine zCT_of zZM_ok pnX10 (Nat.le_of_ble_eq_true rfl) kX10_blockType ksX10_blockType JX10_blockType 1 (fun t ht => ?_) hX10_blockType jnX10_blockType (JIX10_blockType  Q QX) (LIX10_blockType ) (fun n t ln σ' ht hj hI => ?_) (fun m t ln σ' ht hj hI => ?_) (pX10_blockType_0  Q QX  σ h0)
  · cases ht
  · cases ht
  · cases ht
def JX10_exported : Nat → Bool := fun t => Nat.beq t 76
def jnX10_exported : Nat → Bool := fun t => false && Nat.beq t 0
def hX10_exported : Nat → List Nat := fun t => bif Nat.beq t 76 then [0, 1, 2, 5] else []
def PX10_exported_76 (K76 : Int32 → Int32 → zS → Prop) (Q : Option Value → zS → Prop) (QX : zS → Prop) (x2 : Int32) (x5 : Int32) (σ : zS) : Prop :=
  ((x2 ≤ x5 →
    Q none σ) ∧ (¬ x2 ≤ x5 →
    vp_in x5 64 ∧
    vp_in x5 64 ∧
    vp_in x2 64 ∧
    vp_in x2 64 ∧
    zCT zZM zmX10_isSame [.ref 0, .int (σ.1 36 x5.toNatClampNeg), .int (σ.1 37 x5.toNatClampNeg), .int (σ.1 36 x2.toNatClampNeg), .int (σ.1 37 x2.toNatClampNeg)] σ (zQi (fun r2 s1 =>
      ((r2 = 0 →
        vp_in x2 64 ∧
        zCT zZM zmX10_must [.ref 0, .int (1 : Int32), .int (s1.1 38 x2.toNatClampNeg)] s1 (zQv (fun s3 =>
          K76 x2 (x5 + 1) s3)) QX) ∧ (¬ r2 = 0 →
        vp_in x2 64 ∧
        zCT zZM zmX10_must [.ref 0, .int (0 : Int32), .int (s1.1 38 x2.toNatClampNeg)] s1 (zQv (fun s4 =>
          K76 x2 (x5 + 1) s4)) QX)))) QX))
def PX10_exported_0 (K76 : Int32 → Int32 → zS → Prop) (Q : Option Value → zS → Prop) (QX : zS → Prop) (a1 : Int32) (σ : zS) : Prop :=
  vp_in a1 64 ∧
  (((σ.1 39 a1.toNatClampNeg) = 0 →
    zCT zZM zmX10_functionsOf [.ref 1] σ (zQi (fun r2 s1 =>
      vp_in a1 64 ∧
      (((r2.toInt64) ≤ (s1.2 40 a1.toNatClampNeg) →
        vp_in a1 64 ∧
        zCT zZM zmX10_must [.ref 0, .int (0 : Int32), .int (s1.1 41 a1.toNatClampNeg)] s1 (zQv (fun s3 =>
          K76 a1 (0 : Int32) s3)) QX) ∧ (¬ (r2.toInt64) ≤ (s1.2 40 a1.toNatClampNeg) →
        vp_in a1 64 ∧
        zCT zZM zmX10_must [.ref 0, .int (1 : Int32), .int (s1.1 41 a1.toNatClampNeg)] s1 (zQv (fun s4 =>
          K76 a1 (0 : Int32) s4)) QX)))) QX) ∧ (¬ (σ.1 39 a1.toNatClampNeg) = 0 →
    (((σ.1 39 a1.toNatClampNeg) = (3 : Int32) →
      zCT zZM zmX10_globalsOf [.ref 1] σ (zQi (fun r6 s5 =>
        vp_in a1 64 ∧
        (((r6.toInt64) ≤ (s5.2 40 a1.toNatClampNeg) →
          vp_in a1 64 ∧
          zCT zZM zmX10_must [.ref 0, .int (0 : Int32), .int (s5.1 41 a1.toNatClampNeg)] s5 (zQv (fun s7 =>
            K76 a1 (0 : Int32) s7)) QX) ∧ (¬ (r6.toInt64) ≤ (s5.2 40 a1.toNatClampNeg) →
          vp_in a1 64 ∧
          zCT zZM zmX10_must [.ref 0, .int (1 : Int32), .int (s5.1 41 a1.toNatClampNeg)] s5 (zQv (fun s8 =>
            K76 a1 (0 : Int32) s8)) QX)))) QX) ∧ (¬ (σ.1 39 a1.toNatClampNeg) = (3 : Int32) →
      zCT zZM zmX9_has [.ref 1, .int (σ.1 39 a1.toNatClampNeg)] σ (zQi (fun r10 s9 =>
        ((r10 = 0 →
          vp_in a1 64 ∧
          ((((0 : Int32).toInt64) ≤ (s9.2 40 a1.toNatClampNeg) →
            vp_in a1 64 ∧
            zCT zZM zmX10_must [.ref 0, .int (0 : Int32), .int (s9.1 41 a1.toNatClampNeg)] s9 (zQv (fun s11 =>
              K76 a1 (0 : Int32) s11)) QX) ∧ (¬ ((0 : Int32).toInt64) ≤ (s9.2 40 a1.toNatClampNeg) →
            vp_in a1 64 ∧
            zCT zZM zmX10_must [.ref 0, .int (1 : Int32), .int (s9.1 41 a1.toNatClampNeg)] s9 (zQv (fun s12 =>
              K76 a1 (0 : Int32) s12)) QX))) ∧ (¬ r10 = 0 →
          vp_in a1 64 ∧
          ((((1 : Int32).toInt64) ≤ (s9.2 40 a1.toNatClampNeg) →
            vp_in a1 64 ∧
            zCT zZM zmX10_must [.ref 0, .int (0 : Int32), .int (s9.1 41 a1.toNatClampNeg)] s9 (zQv (fun s13 =>
              K76 a1 (0 : Int32) s13)) QX) ∧ (¬ ((1 : Int32).toInt64) ≤ (s9.2 40 a1.toNatClampNeg) →
            vp_in a1 64 ∧
            zCT zZM zmX10_must [.ref 0, .int (1 : Int32), .int (s9.1 41 a1.toNatClampNeg)] s9 (zQv (fun s14 =>
              K76 a1 (0 : Int32) s14)) QX)))))) QX))))
def LIX10_exported (I76 : Nat → Int32 → Int32 → zS → Prop) : Nat → Nat → zLo → zS → Prop := fun t n l τ => bif Nat.beq t 76 then zdR 0 0 (zdR 1 1 (zdI 2 (fun x2 => zdI 5 (fun x5 => zdN (I76 n x2 x5 τ))))) l else False
def JIX10_exported (I76 : Nat → Int32 → Int32 → zS → Prop) (Q : Option Value → zS → Prop) (QX : zS → Prop) : Nat → Option Nat → zLo → zS → Prop := fun t n l τ => False
set_option maxRecDepth 50000 in
theorem pX10_exported_0 (I76 : Nat → Int32 → Int32 → zS → Prop) (Q : Option Value → zS → Prop) (QX : zS → Prop)  (a1 : Int32) (σ : zS) (h : PX10_exported_0 (fun y2 y5 τ => ∃ n', zlt n' none ∧ I76 n' y2 y5 τ) Q QX a1 σ) : zwp JX10_exported (zB hX10_exported (zKt jnX10_exported (JIX10_exported I76 Q QX) (LIX10_exported I76) none 0)) Q QX kX10_exported 0 (lv_args 0 [.ref 0, .ref 1, .int a1]) [] σ := h
set_option maxRecDepth 50000 in
theorem pX10_exported_76 (I76 : Nat → Int32 → Int32 → zS → Prop) (Q : Option Value → zS → Prop) (QX : zS → Prop) (m : Nat) (x2 : Int32) (x5 : Int32) (σ : zS) (h : PX10_exported_76 (fun y2 y5 τ => ∃ n', zlt n' (some m) ∧ I76 n' y2 y5 τ) Q QX x2 x5 σ) : zwp JX10_exported (zB hX10_exported (zKt jnX10_exported (JIX10_exported I76 Q QX) (LIX10_exported I76) (some m) 76)) Q QX kX10_exported 76 [(0, .ref 0), (1, .ref 1), (2, .int x2), (5, .int x5)] [] σ := h
set_option maxRecDepth 50000 in
theorem rX10_exported {Q : Option Value → zS → Prop} {QX : zS → Prop} {a1 : Int32} {σ : zS} (I76 : Nat → Int32 → Int32 → zS → Prop) (hs76 : ∀ (m : Nat) (x2 : Int32) (x5 : Int32) (σ : zS), I76 m x2 x5 σ → PX10_exported_76 (fun y2 y5 τ => ∃ n', zlt n' (some m) ∧ I76 n' y2 y5 τ) Q QX x2 x5 σ) (h0 : PX10_exported_0 (fun y2 y5 τ => ∃ n', zlt n' none ∧ I76 n' y2 y5 τ) Q QX a1 σ) : zCT zZM zmX10_exported [.ref 0, .ref 1, .int a1] σ Q QX := by
  refine zCT_of zZM_ok pnX10 (Nat.le_of_ble_eq_true rfl) kX10_exported ksX10_exported JX10_exported 77 (fun t ht => ?_) hX10_exported jnX10_exported (JIX10_exported I76 Q QX) (LIX10_exported I76) (fun n t ln σ' ht hj hI => ?_) (fun m t ln σ' ht hj hI => ?_) (pX10_exported_0 I76 Q QX a1 σ h0)
  · have et := Nat.eq_of_beq_eq_true ht; subst et
    exact Nat.le_of_ble_eq_true rfl
  · have et := Nat.eq_of_beq_eq_true ht; subst et
    cases hj
  · have et := Nat.eq_of_beq_eq_true ht; subst et
    have hI : LIX10_exported I76 76 m ln σ' := hI
    obtain ⟨l0, e0, hI⟩ := zdR_e (i := 0) (q := 0) hI; subst e0
    obtain ⟨l1, e1, hI⟩ := zdR_e (i := 1) (q := 1) hI; subst e1
    obtain ⟨x2, l2, e2, hI⟩ := zdI_e (i := 2) hI; subst e2
    obtain ⟨x5, l5, e5, hI⟩ := zdI_e (i := 5) hI; subst e5
    obtain ⟨e, hI⟩ := zdN_e hI; subst e
    exact pX10_exported_76 I76 Q QX m x2 x5 σ' (hs76 m x2 x5 σ' hI)
def JX10_flag : Nat → Bool := fun t => false && Nat.beq t 0
def jnX10_flag : Nat → Bool := fun t => false && Nat.beq t 0
def hX10_flag : Nat → List Nat := fun t => []
def PX10_flag_0  (Q : Option Value → zS → Prop) (QX : zS → Prop)  (σ : zS) : Prop :=
  zCT zZM zmX10_octet [.ref 0] σ (zQi (fun r2 s1 =>
    ((r2 ≤ (1 : Int32) →
      ((r2 = (1 : Int32) →
        ((1 : Int32) = 0 ∨ (1 : Int32) = 1) ∧ Q (some (.int (1 : Int32))) s1) ∧ (¬ r2 = (1 : Int32) →
        ((0 : Int32) = 0 ∨ (0 : Int32) = 1) ∧ Q (some (.int (0 : Int32))) s1))) ∧ (¬ r2 ≤ (1 : Int32) →
      zCT zZM zmX10_wrong [.ref 0, .int (1 : Int32), .int (σ.1 0 12)] s1 (zQr (fun r4 s3 =>
        o_athrow zYM 2 Q QX (fun _ _ _ _ => False) [] [.ref r4] s3)) QX)))) QX
def LIX10_flag  : Nat → Nat → zLo → zS → Prop := fun t n l τ => False
def JIX10_flag  (Q : Option Value → zS → Prop) (QX : zS → Prop) : Nat → Option Nat → zLo → zS → Prop := fun t n l τ => False
set_option maxRecDepth 50000 in
theorem pX10_flag_0  (Q : Option Value → zS → Prop) (QX : zS → Prop)   (σ : zS) (h : PX10_flag_0  Q QX  σ) : zwp JX10_flag (zB hX10_flag (zKt jnX10_flag (JIX10_flag  Q QX) (LIX10_flag ) none 0)) Q QX kX10_flag 0 (lv_args 0 [.ref 0]) [] σ := h
set_option maxRecDepth 50000 in
theorem rX10_flag {Q : Option Value → zS → Prop} {QX : zS → Prop}  {σ : zS}   (h0 : PX10_flag_0  Q QX  σ) : zCT zZM zmX10_flag [.ref 0] σ Q QX := by
  refine zCT_of zZM_ok pnX10 (Nat.le_of_ble_eq_true rfl) kX10_flag ksX10_flag JX10_flag 1 (fun t ht => ?_) hX10_flag jnX10_flag (JIX10_flag  Q QX) (LIX10_flag ) (fun n t ln σ' ht hj hI => ?_) (fun m t ln σ' ht hj hI => ?_) (pX10_flag_0  Q QX  σ h0)
  · cases ht
  · cases ht
  · cases ht
def JX10_needOctet : Nat → Bool := fun t => false && Nat.beq t 0
def jnX10_needOctet : Nat → Bool := fun t => false && Nat.beq t 0
def hX10_needOctet : Nat → List Nat := fun t => []
def PX10_needOctet_0  (Q : Option Value → zS → Prop) (QX : zS → Prop) (a1 : Int32) (σ : zS) : Prop :=
  zCT zZM zmX10_octet [.ref 0] σ (zQi (fun r2 s1 =>
    ((r2 = a1 →
      Q none s1) ∧ (¬ r2 = a1 →
      zCT zZM zmX10_wrong [.ref 0, .int (1 : Int32), .int (σ.1 0 12)] s1 (zQr (fun r4 s3 =>
        o_athrow zYM 2 Q QX (fun _ _ _ _ => False) [] [.ref r4] s3)) QX)))) QX
def LIX10_needOctet  : Nat → Nat → zLo → zS → Prop := fun t n l τ => False
def JIX10_needOctet  (Q : Option Value → zS → Prop) (QX : zS → Prop) : Nat → Option Nat → zLo → zS → Prop := fun t n l τ => False
set_option maxRecDepth 50000 in
theorem pX10_needOctet_0  (Q : Option Value → zS → Prop) (QX : zS → Prop)  (a1 : Int32) (σ : zS) (h : PX10_needOctet_0  Q QX a1 σ) : zwp JX10_needOctet (zB hX10_needOctet (zKt jnX10_needOctet (JIX10_needOctet  Q QX) (LIX10_needOctet ) none 0)) Q QX kX10_needOctet 0 (lv_args 0 [.ref 0, .int a1]) [] σ := h
set_option maxRecDepth 50000 in
theorem rX10_needOctet {Q : Option Value → zS → Prop} {QX : zS → Prop} {a1 : Int32} {σ : zS}   (h0 : PX10_needOctet_0  Q QX a1 σ) : zCT zZM zmX10_needOctet [.ref 0, .int a1] σ Q QX := by
  refine zCT_of zZM_ok pnX10 (Nat.le_of_ble_eq_true rfl) kX10_needOctet ksX10_needOctet JX10_needOctet 1 (fun t ht => ?_) hX10_needOctet jnX10_needOctet (JIX10_needOctet  Q QX) (LIX10_needOctet ) (fun n t ln σ' ht hj hI => ?_) (fun m t ln σ' ht hj hI => ?_) (pX10_needOctet_0  Q QX a1 σ h0)
  · cases ht
  · cases ht
  · cases ht
def JX10_numbers : Nat → Bool := fun t => Nat.beq t 18 || Nat.beq t 32 || Nat.beq t 54 || Nat.beq t 66 || Nat.beq t 76 || Nat.beq t 89 || Nat.beq t 121 || Nat.beq t 133 || Nat.beq t 140 || Nat.beq t 173
def jnX10_numbers : Nat → Bool := fun t => Nat.beq t 18 || Nat.beq t 32 || Nat.beq t 54 || Nat.beq t 66 || Nat.beq t 76 || Nat.beq t 89 || Nat.beq t 121 || Nat.beq t 133 || Nat.beq t 140 || Nat.beq t 173
def hX10_numbers : Nat → List Nat := fun t => bif Nat.beq t 18 then [0, 1] else bif Nat.beq t 32 then [0] else bif Nat.beq t 54 then [0, 1] else bif Nat.beq t 66 then [0] else bif Nat.beq t 76 then [0, 1] else bif Nat.beq t 89 then [0] else bif Nat.beq t 121 then [0, 1] else bif Nat.beq t 133 then [0, 1] else bif Nat.beq t 140 then [0] else bif Nat.beq t 173 then [0] else []
def PX10_numbers_173  (Q : Option Value → zS → Prop) (QX : zS → Prop)  (σ : zS) : Prop :=
  zCT zZM zmX10_turns [.ref 0, .int (0 : Int32), .int (1 : Int32), .int (1 : Int32)] σ (zQv (fun s1 =>
    Q none s1)) QX
def PX10_numbers_140  (Q : Option Value → zS → Prop) (QX : zS → Prop)  (σ : zS) : Prop :=
  zCT zZM zmX10_turns [.ref 0, .int (1 : Int32), .int (1 : Int32), .int (1 : Int32)] σ (zQv (fun s1 =>
    Q none s1)) QX
def PX10_numbers_133  (Q : Option Value → zS → Prop) (QX : zS → Prop) (x1 : Int32) (σ : zS) : Prop :=
  ((x1 < (194 : Int32) →
    ((x1 < (124 : Int32) →
      PX10_numbers_173 Q QX σ) ∧ (¬ x1 < (124 : Int32) →
      (((138 : Int32) < x1 →
        PX10_numbers_173 Q QX σ) ∧ (¬ (138 : Int32) < x1 →
        zCT zZM zmX10_turns [.ref 0, .int (1 : Int32), .int (2 : Int32), .int (1 : Int32)] σ (zQv (fun s1 =>
          Q none s1)) QX))))) ∧ (¬ x1 < (194 : Int32) →
    PX10_numbers_140 Q QX σ))
def PX10_numbers_121  (Q : Option Value → zS → Prop) (QX : zS → Prop) (x1 : Int32) (σ : zS) : Prop :=
  ((x1 < (121 : Int32) →
    PX10_numbers_133 Q QX x1 σ) ∧ (¬ x1 < (121 : Int32) →
    ((x1 ≤ (123 : Int32) →
      PX10_numbers_140 Q QX σ) ∧ (¬ x1 ≤ (123 : Int32) →
      PX10_numbers_133 Q QX x1 σ))))
def PX10_numbers_89  (Q : Option Value → zS → Prop) (QX : zS → Prop)  (σ : zS) : Prop :=
  zCT zZM zmX10_turns [.ref 0, .int (1 : Int32), .int (1 : Int32), .int (0 : Int32)] σ (zQv (fun s1 =>
    Q none s1)) QX
def PX10_numbers_76  (Q : Option Value → zS → Prop) (QX : zS → Prop) (x1 : Int32) (σ : zS) : Prop :=
  ((x1 = (80 : Int32) →
    PX10_numbers_89 Q QX σ) ∧ (¬ x1 = (80 : Int32) →
    ((x1 = (167 : Int32) →
      PX10_numbers_89 Q QX σ) ∧ (¬ x1 = (167 : Int32) →
      ((x1 < (81 : Int32) →
        PX10_numbers_121 Q QX x1 σ) ∧ (¬ x1 < (81 : Int32) →
        (((90 : Int32) < x1 →
          PX10_numbers_121 Q QX x1 σ) ∧ (¬ (90 : Int32) < x1 →
          zCT zZM zmX10_turns [.ref 0, .int (1 : Int32), .int (2 : Int32), .int (0 : Int32)] σ (zQv (fun s1 =>
            Q none s1)) QX))))))))
def PX10_numbers_66  (Q : Option Value → zS → Prop) (QX : zS → Prop)  (σ : zS) : Prop :=
  zCT zZM zmX10_turns [.ref 0, .int (0 : Int32), .int (2 : Int32), .int (0 : Int32)] σ (zQv (fun s1 =>
    Q none s1)) QX
def PX10_numbers_54  (Q : Option Value → zS → Prop) (QX : zS → Prop) (x1 : Int32) (σ : zS) : Prop :=
  ((x1 < (106 : Int32) →
    PX10_numbers_76 Q QX x1 σ) ∧ (¬ x1 < (106 : Int32) →
    (((120 : Int32) < x1 →
      PX10_numbers_76 Q QX x1 σ) ∧ (¬ (120 : Int32) < x1 →
      PX10_numbers_66 Q QX σ))))
def PX10_numbers_32  (Q : Option Value → zS → Prop) (QX : zS → Prop)  (σ : zS) : Prop :=
  zCT zZM zmX10_turns [.ref 0, .int (0 : Int32), .int (1 : Int32), .int (0 : Int32)] σ (zQv (fun s1 =>
    Q none s1)) QX
def PX10_numbers_18  (Q : Option Value → zS → Prop) (QX : zS → Prop) (x1 : Int32) (σ : zS) : Prop :=
  ((x1 = (192 : Int32) →
    PX10_numbers_32 Q QX σ) ∧ (¬ x1 = (192 : Int32) →
    ((x1 = (193 : Int32) →
      PX10_numbers_32 Q QX σ) ∧ (¬ x1 = (193 : Int32) →
      ((x1 < (70 : Int32) →
        PX10_numbers_54 Q QX x1 σ) ∧ (¬ x1 < (70 : Int32) →
        ((x1 ≤ (79 : Int32) →
          PX10_numbers_66 Q QX σ) ∧ (¬ x1 ≤ (79 : Int32) →
          PX10_numbers_54 Q QX x1 σ))))))))
def PX10_numbers_0  (Q : Option Value → zS → Prop) (QX : zS → Prop) (a1 : Int32) (σ : zS) : Prop :=
  ((a1 = (69 : Int32) →
    PX10_numbers_32 Q QX σ) ∧ (¬ a1 = (69 : Int32) →
    ((a1 < (103 : Int32) →
      PX10_numbers_18 Q QX a1 σ) ∧ (¬ a1 < (103 : Int32) →
      ((a1 ≤ (105 : Int32) →
        PX10_numbers_32 Q QX σ) ∧ (¬ a1 ≤ (105 : Int32) →
        PX10_numbers_18 Q QX a1 σ))))))
def LIX10_numbers  : Nat → Nat → zLo → zS → Prop := fun t n l τ => False
def JIX10_numbers  (Q : Option Value → zS → Prop) (QX : zS → Prop) : Nat → Option Nat → zLo → zS → Prop := fun t n l τ => bif Nat.beq t 18 then zdR 0 0 (zdI 1 (fun x1 => zdN (PX10_numbers_18  Q QX x1 τ))) l else bif Nat.beq t 32 then zdR 0 0 (zdN (PX10_numbers_32  Q QX  τ)) l else bif Nat.beq t 54 then zdR 0 0 (zdI 1 (fun x1 => zdN (PX10_numbers_54  Q QX x1 τ))) l else bif Nat.beq t 66 then zdR 0 0 (zdN (PX10_numbers_66  Q QX  τ)) l else bif Nat.beq t 76 then zdR 0 0 (zdI 1 (fun x1 => zdN (PX10_numbers_76  Q QX x1 τ))) l else bif Nat.beq t 89 then zdR 0 0 (zdN (PX10_numbers_89  Q QX  τ)) l else bif Nat.beq t 121 then zdR 0 0 (zdI 1 (fun x1 => zdN (PX10_numbers_121  Q QX x1 τ))) l else bif Nat.beq t 133 then zdR 0 0 (zdI 1 (fun x1 => zdN (PX10_numbers_133  Q QX x1 τ))) l else bif Nat.beq t 140 then zdR 0 0 (zdN (PX10_numbers_140  Q QX  τ)) l else bif Nat.beq t 173 then zdR 0 0 (zdN (PX10_numbers_173  Q QX  τ)) l else False
set_option maxRecDepth 50000 in
theorem pX10_numbers_0  (Q : Option Value → zS → Prop) (QX : zS → Prop)  (a1 : Int32) (σ : zS) (h : PX10_numbers_0  Q QX a1 σ) : zwp JX10_numbers (zB hX10_numbers (zKt jnX10_numbers (JIX10_numbers  Q QX) (LIX10_numbers ) none 0)) Q QX kX10_numbers 0 (lv_args 0 [.ref 0, .int a1]) [] σ := h
set_option maxRecDepth 50000 in
theorem pX10_numbers_18  (Q : Option Value → zS → Prop) (QX : zS → Prop) (n : Option Nat) (x1 : Int32) (σ : zS) (h : PX10_numbers_18  Q QX x1 σ) : zwp JX10_numbers (zB hX10_numbers (zKt jnX10_numbers (JIX10_numbers  Q QX) (LIX10_numbers ) n 18)) Q QX kX10_numbers 18 [(0, .ref 0), (1, .int x1)] [] σ := h
set_option maxRecDepth 50000 in
theorem pX10_numbers_32  (Q : Option Value → zS → Prop) (QX : zS → Prop) (n : Option Nat)  (σ : zS) (h : PX10_numbers_32  Q QX  σ) : zwp JX10_numbers (zB hX10_numbers (zKt jnX10_numbers (JIX10_numbers  Q QX) (LIX10_numbers ) n 32)) Q QX kX10_numbers 32 [(0, .ref 0)] [] σ := h
set_option maxRecDepth 50000 in
theorem pX10_numbers_54  (Q : Option Value → zS → Prop) (QX : zS → Prop) (n : Option Nat) (x1 : Int32) (σ : zS) (h : PX10_numbers_54  Q QX x1 σ) : zwp JX10_numbers (zB hX10_numbers (zKt jnX10_numbers (JIX10_numbers  Q QX) (LIX10_numbers ) n 54)) Q QX kX10_numbers 54 [(0, .ref 0), (1, .int x1)] [] σ := h
set_option maxRecDepth 50000 in
theorem pX10_numbers_66  (Q : Option Value → zS → Prop) (QX : zS → Prop) (n : Option Nat)  (σ : zS) (h : PX10_numbers_66  Q QX  σ) : zwp JX10_numbers (zB hX10_numbers (zKt jnX10_numbers (JIX10_numbers  Q QX) (LIX10_numbers ) n 66)) Q QX kX10_numbers 66 [(0, .ref 0)] [] σ := h
set_option maxRecDepth 50000 in
theorem pX10_numbers_76  (Q : Option Value → zS → Prop) (QX : zS → Prop) (n : Option Nat) (x1 : Int32) (σ : zS) (h : PX10_numbers_76  Q QX x1 σ) : zwp JX10_numbers (zB hX10_numbers (zKt jnX10_numbers (JIX10_numbers  Q QX) (LIX10_numbers ) n 76)) Q QX kX10_numbers 76 [(0, .ref 0), (1, .int x1)] [] σ := h
set_option maxRecDepth 50000 in
theorem pX10_numbers_89  (Q : Option Value → zS → Prop) (QX : zS → Prop) (n : Option Nat)  (σ : zS) (h : PX10_numbers_89  Q QX  σ) : zwp JX10_numbers (zB hX10_numbers (zKt jnX10_numbers (JIX10_numbers  Q QX) (LIX10_numbers ) n 89)) Q QX kX10_numbers 89 [(0, .ref 0)] [] σ := h
set_option maxRecDepth 50000 in
theorem pX10_numbers_121  (Q : Option Value → zS → Prop) (QX : zS → Prop) (n : Option Nat) (x1 : Int32) (σ : zS) (h : PX10_numbers_121  Q QX x1 σ) : zwp JX10_numbers (zB hX10_numbers (zKt jnX10_numbers (JIX10_numbers  Q QX) (LIX10_numbers ) n 121)) Q QX kX10_numbers 121 [(0, .ref 0), (1, .int x1)] [] σ := h
set_option maxRecDepth 50000 in
theorem pX10_numbers_133  (Q : Option Value → zS → Prop) (QX : zS → Prop) (n : Option Nat) (x1 : Int32) (σ : zS) (h : PX10_numbers_133  Q QX x1 σ) : zwp JX10_numbers (zB hX10_numbers (zKt jnX10_numbers (JIX10_numbers  Q QX) (LIX10_numbers ) n 133)) Q QX kX10_numbers 133 [(0, .ref 0), (1, .int x1)] [] σ := h
set_option maxRecDepth 50000 in
theorem pX10_numbers_140  (Q : Option Value → zS → Prop) (QX : zS → Prop) (n : Option Nat)  (σ : zS) (h : PX10_numbers_140  Q QX  σ) : zwp JX10_numbers (zB hX10_numbers (zKt jnX10_numbers (JIX10_numbers  Q QX) (LIX10_numbers ) n 140)) Q QX kX10_numbers 140 [(0, .ref 0)] [] σ := h
set_option maxRecDepth 50000 in
theorem pX10_numbers_173  (Q : Option Value → zS → Prop) (QX : zS → Prop) (n : Option Nat)  (σ : zS) (h : PX10_numbers_173  Q QX  σ) : zwp JX10_numbers (zB hX10_numbers (zKt jnX10_numbers (JIX10_numbers  Q QX) (LIX10_numbers ) n 173)) Q QX kX10_numbers 173 [(0, .ref 0)] [] σ := h
set_option maxRecDepth 50000 in
theorem rX10_numbers {Q : Option Value → zS → Prop} {QX : zS → Prop} {a1 : Int32} {σ : zS}   (h0 : PX10_numbers_0  Q QX a1 σ) : zCT zZM zmX10_numbers [.ref 0, .int a1] σ Q QX := by
  refine zCT_of zZM_ok pnX10 (Nat.le_of_ble_eq_true rfl) kX10_numbers ksX10_numbers JX10_numbers 174 (fun t ht => ?_) hX10_numbers jnX10_numbers (JIX10_numbers  Q QX) (LIX10_numbers ) (fun n t ln σ' ht hj hI => ?_) (fun m t ln σ' ht hj hI => ?_) (pX10_numbers_0  Q QX a1 σ h0)
  · refine zor ht (fun ht => ?_) (fun ht => ?_)
    · skip
      refine zor ht (fun ht => ?_) (fun ht => ?_)
      · skip
        refine zor ht (fun ht => ?_) (fun ht => ?_)
        · skip
          refine zor ht (fun ht => ?_) (fun ht => ?_)
          · skip
            refine zor ht (fun ht => ?_) (fun ht => ?_)
            · skip
              refine zor ht (fun ht => ?_) (fun ht => ?_)
              · skip
                refine zor ht (fun ht => ?_) (fun ht => ?_)
                · skip
                  refine zor ht (fun ht => ?_) (fun ht => ?_)
                  · skip
                    refine zor ht (fun ht => ?_) (fun ht => ?_)
                    · skip
                      have et := Nat.eq_of_beq_eq_true ht; subst et
                      exact Nat.le_of_ble_eq_true rfl
                    · skip
                      have et := Nat.eq_of_beq_eq_true ht; subst et
                      exact Nat.le_of_ble_eq_true rfl
                  · skip
                    have et := Nat.eq_of_beq_eq_true ht; subst et
                    exact Nat.le_of_ble_eq_true rfl
                · skip
                  have et := Nat.eq_of_beq_eq_true ht; subst et
                  exact Nat.le_of_ble_eq_true rfl
              · skip
                have et := Nat.eq_of_beq_eq_true ht; subst et
                exact Nat.le_of_ble_eq_true rfl
            · skip
              have et := Nat.eq_of_beq_eq_true ht; subst et
              exact Nat.le_of_ble_eq_true rfl
          · skip
            have et := Nat.eq_of_beq_eq_true ht; subst et
            exact Nat.le_of_ble_eq_true rfl
        · skip
          have et := Nat.eq_of_beq_eq_true ht; subst et
          exact Nat.le_of_ble_eq_true rfl
      · skip
        have et := Nat.eq_of_beq_eq_true ht; subst et
        exact Nat.le_of_ble_eq_true rfl
    · skip
      have et := Nat.eq_of_beq_eq_true ht; subst et
      exact Nat.le_of_ble_eq_true rfl
  · refine zor ht (fun ht => ?_) (fun ht => ?_)
    · skip
      refine zor ht (fun ht => ?_) (fun ht => ?_)
      · skip
        refine zor ht (fun ht => ?_) (fun ht => ?_)
        · skip
          refine zor ht (fun ht => ?_) (fun ht => ?_)
          · skip
            refine zor ht (fun ht => ?_) (fun ht => ?_)
            · skip
              refine zor ht (fun ht => ?_) (fun ht => ?_)
              · skip
                refine zor ht (fun ht => ?_) (fun ht => ?_)
                · skip
                  refine zor ht (fun ht => ?_) (fun ht => ?_)
                  · skip
                    refine zor ht (fun ht => ?_) (fun ht => ?_)
                    · skip
                      have et := Nat.eq_of_beq_eq_true ht; subst et
                      have hI : JIX10_numbers  Q QX 18 n ln σ' := hI
                      obtain ⟨l0, e0, hI⟩ := zdR_e (i := 0) (q := 0) hI; subst e0
                      obtain ⟨x1, l1, e1, hI⟩ := zdI_e (i := 1) hI; subst e1
                      obtain ⟨e, hI⟩ := zdN_e hI; subst e
                      exact pX10_numbers_18  Q QX n x1 σ' hI
                    · skip
                      have et := Nat.eq_of_beq_eq_true ht; subst et
                      have hI : JIX10_numbers  Q QX 32 n ln σ' := hI
                      obtain ⟨l0, e0, hI⟩ := zdR_e (i := 0) (q := 0) hI; subst e0
                      obtain ⟨e, hI⟩ := zdN_e hI; subst e
                      exact pX10_numbers_32  Q QX n  σ' hI
                  · skip
                    have et := Nat.eq_of_beq_eq_true ht; subst et
                    have hI : JIX10_numbers  Q QX 54 n ln σ' := hI
                    obtain ⟨l0, e0, hI⟩ := zdR_e (i := 0) (q := 0) hI; subst e0
                    obtain ⟨x1, l1, e1, hI⟩ := zdI_e (i := 1) hI; subst e1
                    obtain ⟨e, hI⟩ := zdN_e hI; subst e
                    exact pX10_numbers_54  Q QX n x1 σ' hI
                · skip
                  have et := Nat.eq_of_beq_eq_true ht; subst et
                  have hI : JIX10_numbers  Q QX 66 n ln σ' := hI
                  obtain ⟨l0, e0, hI⟩ := zdR_e (i := 0) (q := 0) hI; subst e0
                  obtain ⟨e, hI⟩ := zdN_e hI; subst e
                  exact pX10_numbers_66  Q QX n  σ' hI
              · skip
                have et := Nat.eq_of_beq_eq_true ht; subst et
                have hI : JIX10_numbers  Q QX 76 n ln σ' := hI
                obtain ⟨l0, e0, hI⟩ := zdR_e (i := 0) (q := 0) hI; subst e0
                obtain ⟨x1, l1, e1, hI⟩ := zdI_e (i := 1) hI; subst e1
                obtain ⟨e, hI⟩ := zdN_e hI; subst e
                exact pX10_numbers_76  Q QX n x1 σ' hI
            · skip
              have et := Nat.eq_of_beq_eq_true ht; subst et
              have hI : JIX10_numbers  Q QX 89 n ln σ' := hI
              obtain ⟨l0, e0, hI⟩ := zdR_e (i := 0) (q := 0) hI; subst e0
              obtain ⟨e, hI⟩ := zdN_e hI; subst e
              exact pX10_numbers_89  Q QX n  σ' hI
          · skip
            have et := Nat.eq_of_beq_eq_true ht; subst et
            have hI : JIX10_numbers  Q QX 121 n ln σ' := hI
            obtain ⟨l0, e0, hI⟩ := zdR_e (i := 0) (q := 0) hI; subst e0
            obtain ⟨x1, l1, e1, hI⟩ := zdI_e (i := 1) hI; subst e1
            obtain ⟨e, hI⟩ := zdN_e hI; subst e
            exact pX10_numbers_121  Q QX n x1 σ' hI
        · skip
          have et := Nat.eq_of_beq_eq_true ht; subst et
          have hI : JIX10_numbers  Q QX 133 n ln σ' := hI
          obtain ⟨l0, e0, hI⟩ := zdR_e (i := 0) (q := 0) hI; subst e0
          obtain ⟨x1, l1, e1, hI⟩ := zdI_e (i := 1) hI; subst e1
          obtain ⟨e, hI⟩ := zdN_e hI; subst e
          exact pX10_numbers_133  Q QX n x1 σ' hI
      · skip
        have et := Nat.eq_of_beq_eq_true ht; subst et
        have hI : JIX10_numbers  Q QX 140 n ln σ' := hI
        obtain ⟨l0, e0, hI⟩ := zdR_e (i := 0) (q := 0) hI; subst e0
        obtain ⟨e, hI⟩ := zdN_e hI; subst e
        exact pX10_numbers_140  Q QX n  σ' hI
    · skip
      have et := Nat.eq_of_beq_eq_true ht; subst et
      have hI : JIX10_numbers  Q QX 173 n ln σ' := hI
      obtain ⟨l0, e0, hI⟩ := zdR_e (i := 0) (q := 0) hI; subst e0
      obtain ⟨e, hI⟩ := zdN_e hI; subst e
      exact pX10_numbers_173  Q QX n  σ' hI
  · refine zor ht (fun ht => ?_) (fun ht => ?_)
    · skip
      refine zor ht (fun ht => ?_) (fun ht => ?_)
      · skip
        refine zor ht (fun ht => ?_) (fun ht => ?_)
        · skip
          refine zor ht (fun ht => ?_) (fun ht => ?_)
          · skip
            refine zor ht (fun ht => ?_) (fun ht => ?_)
            · skip
              refine zor ht (fun ht => ?_) (fun ht => ?_)
              · skip
                refine zor ht (fun ht => ?_) (fun ht => ?_)
                · skip
                  refine zor ht (fun ht => ?_) (fun ht => ?_)
                  · skip
                    refine zor ht (fun ht => ?_) (fun ht => ?_)
                    · skip
                      have et := Nat.eq_of_beq_eq_true ht; subst et
                      cases hj
                    · skip
                      have et := Nat.eq_of_beq_eq_true ht; subst et
                      cases hj
                  · skip
                    have et := Nat.eq_of_beq_eq_true ht; subst et
                    cases hj
                · skip
                  have et := Nat.eq_of_beq_eq_true ht; subst et
                  cases hj
              · skip
                have et := Nat.eq_of_beq_eq_true ht; subst et
                cases hj
            · skip
              have et := Nat.eq_of_beq_eq_true ht; subst et
              cases hj
          · skip
            have et := Nat.eq_of_beq_eq_true ht; subst et
            cases hj
        · skip
          have et := Nat.eq_of_beq_eq_true ht; subst et
          cases hj
      · skip
        have et := Nat.eq_of_beq_eq_true ht; subst et
        cases hj
    · skip
      have et := Nat.eq_of_beq_eq_true ht; subst et
      cases hj
def JX10_one : Nat → Bool := fun t => false && Nat.beq t 0
def jnX10_one : Nat → Bool := fun t => false && Nat.beq t 0
def hX10_one : Nat → List Nat := fun t => []
def PX10_one_0  (Q : Option Value → zS → Prop) (QX : zS → Prop) (a1 : Int32) (a2 : Int32) (σ : zS) : Prop :=
  vp_in a1 4 ∧
  (((2 : Int32) ≤ (σ.1 55 a1.toNatClampNeg) →
    (((2 : Int32) ≤ (σ.1 55 a1.toNatClampNeg) →
      zCT zZM zmX10_importOf [.ref 1, .int a1, .int (1 : Int32)] σ (zQi (fun r2 s1 =>
        vp_in r2 32 ∧
        zCT zZM zmX10_must [.ref 0, .int (0 : Int32), .int (s1.1 27 r2.toNatClampNeg)] s1 (zQv (fun s3 =>
          ((a2 = 0 →
            Q none s3) ∧ (¬ a2 = 0 →
            (((σ.1 55 a1.toNatClampNeg) = 0 →
              vp_in (a1 - (1 : Int32)) 2 ∧
              zCT zZM zmX10_must [.ref 0, .int (1 : Int32), .int (s3.1 18 (a1 - (1 : Int32)).toNatClampNeg)] s3 (zQv (fun s4 =>
                ((a2 = (1 : Int32) →
                  vp_in (a1 - (1 : Int32)) 2 ∧
                  zCT zZM zmX10_must [.ref 0, .int (1 : Int32), .int (s4.1 17 (a1 - (1 : Int32)).toNatClampNeg)] s4 (zQv (fun s5 =>
                    vp_in (a1 - (1 : Int32)) 2 ∧
                    vp_in (a1 - (1 : Int32)) 2 ∧
                    zCT zZM zmX10_areRight [.int a1, .long (s5.2 14 (a1 - (1 : Int32)).toNatClampNeg), .long (s5.2 15 (a1 - (1 : Int32)).toNatClampNeg)] s5 (zQi (fun r7 s6 =>
                      vp_in (a1 - (1 : Int32)) 2 ∧
                      zCT zZM zmX10_must [.ref 0, .int r7, .int (s6.1 16 (a1 - (1 : Int32)).toNatClampNeg)] s6 (zQv (fun s8 =>
                        Q none s8)) QX)) QX)) QX) ∧ (¬ a2 = (1 : Int32) →
                  vp_in (a1 - (1 : Int32)) 2 ∧
                  zCT zZM zmX10_must [.ref 0, .int (0 : Int32), .int (s4.1 17 (a1 - (1 : Int32)).toNatClampNeg)] s4 (zQv (fun s9 =>
                    vp_in (a1 - (1 : Int32)) 2 ∧
                    vp_in (a1 - (1 : Int32)) 2 ∧
                    zCT zZM zmX10_areRight [.int a1, .long (s9.2 14 (a1 - (1 : Int32)).toNatClampNeg), .long (s9.2 15 (a1 - (1 : Int32)).toNatClampNeg)] s9 (zQi (fun r11 s10 =>
                      vp_in (a1 - (1 : Int32)) 2 ∧
                      zCT zZM zmX10_must [.ref 0, .int r11, .int (s10.1 16 (a1 - (1 : Int32)).toNatClampNeg)] s10 (zQv (fun s12 =>
                        Q none s12)) QX)) QX)) QX)))) QX) ∧ (¬ (σ.1 55 a1.toNatClampNeg) = 0 →
              vp_in (a1 - (1 : Int32)) 2 ∧
              zCT zZM zmX10_must [.ref 0, .int (0 : Int32), .int (s3.1 18 (a1 - (1 : Int32)).toNatClampNeg)] s3 (zQv (fun s13 =>
                ((a2 = (1 : Int32) →
                  vp_in (a1 - (1 : Int32)) 2 ∧
                  zCT zZM zmX10_must [.ref 0, .int (1 : Int32), .int (s13.1 17 (a1 - (1 : Int32)).toNatClampNeg)] s13 (zQv (fun s14 =>
                    vp_in (a1 - (1 : Int32)) 2 ∧
                    vp_in (a1 - (1 : Int32)) 2 ∧
                    zCT zZM zmX10_areRight [.int a1, .long (s14.2 14 (a1 - (1 : Int32)).toNatClampNeg), .long (s14.2 15 (a1 - (1 : Int32)).toNatClampNeg)] s14 (zQi (fun r16 s15 =>
                      vp_in (a1 - (1 : Int32)) 2 ∧
                      zCT zZM zmX10_must [.ref 0, .int r16, .int (s15.1 16 (a1 - (1 : Int32)).toNatClampNeg)] s15 (zQv (fun s17 =>
                        Q none s17)) QX)) QX)) QX) ∧ (¬ a2 = (1 : Int32) →
                  vp_in (a1 - (1 : Int32)) 2 ∧
                  zCT zZM zmX10_must [.ref 0, .int (0 : Int32), .int (s13.1 17 (a1 - (1 : Int32)).toNatClampNeg)] s13 (zQv (fun s18 =>
                    vp_in (a1 - (1 : Int32)) 2 ∧
                    vp_in (a1 - (1 : Int32)) 2 ∧
                    zCT zZM zmX10_areRight [.int a1, .long (s18.2 14 (a1 - (1 : Int32)).toNatClampNeg), .long (s18.2 15 (a1 - (1 : Int32)).toNatClampNeg)] s18 (zQi (fun r20 s19 =>
                      vp_in (a1 - (1 : Int32)) 2 ∧
                      zCT zZM zmX10_must [.ref 0, .int r20, .int (s19.1 16 (a1 - (1 : Int32)).toNatClampNeg)] s19 (zQv (fun s21 =>
                        Q none s21)) QX)) QX)) QX)))) QX)))))) QX)) QX) ∧ (¬ (2 : Int32) ≤ (σ.1 55 a1.toNatClampNeg) →
      zCT zZM zmX10_must [.ref 0, .int (0 : Int32), .int (0 : Int32)] σ (zQv (fun s22 =>
        ((a2 = 0 →
          Q none s22) ∧ (¬ a2 = 0 →
          (((σ.1 55 a1.toNatClampNeg) = 0 →
            vp_in (a1 - (1 : Int32)) 2 ∧
            zCT zZM zmX10_must [.ref 0, .int (1 : Int32), .int (s22.1 18 (a1 - (1 : Int32)).toNatClampNeg)] s22 (zQv (fun s23 =>
              ((a2 = (1 : Int32) →
                vp_in (a1 - (1 : Int32)) 2 ∧
                zCT zZM zmX10_must [.ref 0, .int (1 : Int32), .int (s23.1 17 (a1 - (1 : Int32)).toNatClampNeg)] s23 (zQv (fun s24 =>
                  vp_in (a1 - (1 : Int32)) 2 ∧
                  vp_in (a1 - (1 : Int32)) 2 ∧
                  zCT zZM zmX10_areRight [.int a1, .long (s24.2 14 (a1 - (1 : Int32)).toNatClampNeg), .long (s24.2 15 (a1 - (1 : Int32)).toNatClampNeg)] s24 (zQi (fun r26 s25 =>
                    vp_in (a1 - (1 : Int32)) 2 ∧
                    zCT zZM zmX10_must [.ref 0, .int r26, .int (s25.1 16 (a1 - (1 : Int32)).toNatClampNeg)] s25 (zQv (fun s27 =>
                      Q none s27)) QX)) QX)) QX) ∧ (¬ a2 = (1 : Int32) →
                vp_in (a1 - (1 : Int32)) 2 ∧
                zCT zZM zmX10_must [.ref 0, .int (0 : Int32), .int (s23.1 17 (a1 - (1 : Int32)).toNatClampNeg)] s23 (zQv (fun s28 =>
                  vp_in (a1 - (1 : Int32)) 2 ∧
                  vp_in (a1 - (1 : Int32)) 2 ∧
                  zCT zZM zmX10_areRight [.int a1, .long (s28.2 14 (a1 - (1 : Int32)).toNatClampNeg), .long (s28.2 15 (a1 - (1 : Int32)).toNatClampNeg)] s28 (zQi (fun r30 s29 =>
                    vp_in (a1 - (1 : Int32)) 2 ∧
                    zCT zZM zmX10_must [.ref 0, .int r30, .int (s29.1 16 (a1 - (1 : Int32)).toNatClampNeg)] s29 (zQv (fun s31 =>
                      Q none s31)) QX)) QX)) QX)))) QX) ∧ (¬ (σ.1 55 a1.toNatClampNeg) = 0 →
            vp_in (a1 - (1 : Int32)) 2 ∧
            zCT zZM zmX10_must [.ref 0, .int (0 : Int32), .int (s22.1 18 (a1 - (1 : Int32)).toNatClampNeg)] s22 (zQv (fun s32 =>
              ((a2 = (1 : Int32) →
                vp_in (a1 - (1 : Int32)) 2 ∧
                zCT zZM zmX10_must [.ref 0, .int (1 : Int32), .int (s32.1 17 (a1 - (1 : Int32)).toNatClampNeg)] s32 (zQv (fun s33 =>
                  vp_in (a1 - (1 : Int32)) 2 ∧
                  vp_in (a1 - (1 : Int32)) 2 ∧
                  zCT zZM zmX10_areRight [.int a1, .long (s33.2 14 (a1 - (1 : Int32)).toNatClampNeg), .long (s33.2 15 (a1 - (1 : Int32)).toNatClampNeg)] s33 (zQi (fun r35 s34 =>
                    vp_in (a1 - (1 : Int32)) 2 ∧
                    zCT zZM zmX10_must [.ref 0, .int r35, .int (s34.1 16 (a1 - (1 : Int32)).toNatClampNeg)] s34 (zQv (fun s36 =>
                      Q none s36)) QX)) QX)) QX) ∧ (¬ a2 = (1 : Int32) →
                vp_in (a1 - (1 : Int32)) 2 ∧
                zCT zZM zmX10_must [.ref 0, .int (0 : Int32), .int (s32.1 17 (a1 - (1 : Int32)).toNatClampNeg)] s32 (zQv (fun s37 =>
                  vp_in (a1 - (1 : Int32)) 2 ∧
                  vp_in (a1 - (1 : Int32)) 2 ∧
                  zCT zZM zmX10_areRight [.int a1, .long (s37.2 14 (a1 - (1 : Int32)).toNatClampNeg), .long (s37.2 15 (a1 - (1 : Int32)).toNatClampNeg)] s37 (zQi (fun r39 s38 =>
                    vp_in (a1 - (1 : Int32)) 2 ∧
                    zCT zZM zmX10_must [.ref 0, .int r39, .int (s38.1 16 (a1 - (1 : Int32)).toNatClampNeg)] s38 (zQv (fun s40 =>
                      Q none s40)) QX)) QX)) QX)))) QX)))))) QX))) ∧ (¬ (2 : Int32) ≤ (σ.1 55 a1.toNatClampNeg) →
    (((2 : Int32) ≤ (σ.1 55 a1.toNatClampNeg) →
      zCT zZM zmX10_importOf [.ref 1, .int a1, .int (1 : Int32)] σ (zQi (fun r42 s41 =>
        vp_in r42 32 ∧
        zCT zZM zmX10_must [.ref 0, .int (1 : Int32), .int (s41.1 27 r42.toNatClampNeg)] s41 (zQv (fun s43 =>
          ((a2 = 0 →
            Q none s43) ∧ (¬ a2 = 0 →
            (((σ.1 55 a1.toNatClampNeg) = 0 →
              vp_in (a1 - (1 : Int32)) 2 ∧
              zCT zZM zmX10_must [.ref 0, .int (1 : Int32), .int (s43.1 18 (a1 - (1 : Int32)).toNatClampNeg)] s43 (zQv (fun s44 =>
                ((a2 = (1 : Int32) →
                  vp_in (a1 - (1 : Int32)) 2 ∧
                  zCT zZM zmX10_must [.ref 0, .int (1 : Int32), .int (s44.1 17 (a1 - (1 : Int32)).toNatClampNeg)] s44 (zQv (fun s45 =>
                    vp_in (a1 - (1 : Int32)) 2 ∧
                    vp_in (a1 - (1 : Int32)) 2 ∧
                    zCT zZM zmX10_areRight [.int a1, .long (s45.2 14 (a1 - (1 : Int32)).toNatClampNeg), .long (s45.2 15 (a1 - (1 : Int32)).toNatClampNeg)] s45 (zQi (fun r47 s46 =>
                      vp_in (a1 - (1 : Int32)) 2 ∧
                      zCT zZM zmX10_must [.ref 0, .int r47, .int (s46.1 16 (a1 - (1 : Int32)).toNatClampNeg)] s46 (zQv (fun s48 =>
                        Q none s48)) QX)) QX)) QX) ∧ (¬ a2 = (1 : Int32) →
                  vp_in (a1 - (1 : Int32)) 2 ∧
                  zCT zZM zmX10_must [.ref 0, .int (0 : Int32), .int (s44.1 17 (a1 - (1 : Int32)).toNatClampNeg)] s44 (zQv (fun s49 =>
                    vp_in (a1 - (1 : Int32)) 2 ∧
                    vp_in (a1 - (1 : Int32)) 2 ∧
                    zCT zZM zmX10_areRight [.int a1, .long (s49.2 14 (a1 - (1 : Int32)).toNatClampNeg), .long (s49.2 15 (a1 - (1 : Int32)).toNatClampNeg)] s49 (zQi (fun r51 s50 =>
                      vp_in (a1 - (1 : Int32)) 2 ∧
                      zCT zZM zmX10_must [.ref 0, .int r51, .int (s50.1 16 (a1 - (1 : Int32)).toNatClampNeg)] s50 (zQv (fun s52 =>
                        Q none s52)) QX)) QX)) QX)))) QX) ∧ (¬ (σ.1 55 a1.toNatClampNeg) = 0 →
              vp_in (a1 - (1 : Int32)) 2 ∧
              zCT zZM zmX10_must [.ref 0, .int (0 : Int32), .int (s43.1 18 (a1 - (1 : Int32)).toNatClampNeg)] s43 (zQv (fun s53 =>
                ((a2 = (1 : Int32) →
                  vp_in (a1 - (1 : Int32)) 2 ∧
                  zCT zZM zmX10_must [.ref 0, .int (1 : Int32), .int (s53.1 17 (a1 - (1 : Int32)).toNatClampNeg)] s53 (zQv (fun s54 =>
                    vp_in (a1 - (1 : Int32)) 2 ∧
                    vp_in (a1 - (1 : Int32)) 2 ∧
                    zCT zZM zmX10_areRight [.int a1, .long (s54.2 14 (a1 - (1 : Int32)).toNatClampNeg), .long (s54.2 15 (a1 - (1 : Int32)).toNatClampNeg)] s54 (zQi (fun r56 s55 =>
                      vp_in (a1 - (1 : Int32)) 2 ∧
                      zCT zZM zmX10_must [.ref 0, .int r56, .int (s55.1 16 (a1 - (1 : Int32)).toNatClampNeg)] s55 (zQv (fun s57 =>
                        Q none s57)) QX)) QX)) QX) ∧ (¬ a2 = (1 : Int32) →
                  vp_in (a1 - (1 : Int32)) 2 ∧
                  zCT zZM zmX10_must [.ref 0, .int (0 : Int32), .int (s53.1 17 (a1 - (1 : Int32)).toNatClampNeg)] s53 (zQv (fun s58 =>
                    vp_in (a1 - (1 : Int32)) 2 ∧
                    vp_in (a1 - (1 : Int32)) 2 ∧
                    zCT zZM zmX10_areRight [.int a1, .long (s58.2 14 (a1 - (1 : Int32)).toNatClampNeg), .long (s58.2 15 (a1 - (1 : Int32)).toNatClampNeg)] s58 (zQi (fun r60 s59 =>
                      vp_in (a1 - (1 : Int32)) 2 ∧
                      zCT zZM zmX10_must [.ref 0, .int r60, .int (s59.1 16 (a1 - (1 : Int32)).toNatClampNeg)] s59 (zQv (fun s61 =>
                        Q none s61)) QX)) QX)) QX)))) QX)))))) QX)) QX) ∧ (¬ (2 : Int32) ≤ (σ.1 55 a1.toNatClampNeg) →
      zCT zZM zmX10_must [.ref 0, .int (1 : Int32), .int (0 : Int32)] σ (zQv (fun s62 =>
        ((a2 = 0 →
          Q none s62) ∧ (¬ a2 = 0 →
          (((σ.1 55 a1.toNatClampNeg) = 0 →
            vp_in (a1 - (1 : Int32)) 2 ∧
            zCT zZM zmX10_must [.ref 0, .int (1 : Int32), .int (s62.1 18 (a1 - (1 : Int32)).toNatClampNeg)] s62 (zQv (fun s63 =>
              ((a2 = (1 : Int32) →
                vp_in (a1 - (1 : Int32)) 2 ∧
                zCT zZM zmX10_must [.ref 0, .int (1 : Int32), .int (s63.1 17 (a1 - (1 : Int32)).toNatClampNeg)] s63 (zQv (fun s64 =>
                  vp_in (a1 - (1 : Int32)) 2 ∧
                  vp_in (a1 - (1 : Int32)) 2 ∧
                  zCT zZM zmX10_areRight [.int a1, .long (s64.2 14 (a1 - (1 : Int32)).toNatClampNeg), .long (s64.2 15 (a1 - (1 : Int32)).toNatClampNeg)] s64 (zQi (fun r66 s65 =>
                    vp_in (a1 - (1 : Int32)) 2 ∧
                    zCT zZM zmX10_must [.ref 0, .int r66, .int (s65.1 16 (a1 - (1 : Int32)).toNatClampNeg)] s65 (zQv (fun s67 =>
                      Q none s67)) QX)) QX)) QX) ∧ (¬ a2 = (1 : Int32) →
                vp_in (a1 - (1 : Int32)) 2 ∧
                zCT zZM zmX10_must [.ref 0, .int (0 : Int32), .int (s63.1 17 (a1 - (1 : Int32)).toNatClampNeg)] s63 (zQv (fun s68 =>
                  vp_in (a1 - (1 : Int32)) 2 ∧
                  vp_in (a1 - (1 : Int32)) 2 ∧
                  zCT zZM zmX10_areRight [.int a1, .long (s68.2 14 (a1 - (1 : Int32)).toNatClampNeg), .long (s68.2 15 (a1 - (1 : Int32)).toNatClampNeg)] s68 (zQi (fun r70 s69 =>
                    vp_in (a1 - (1 : Int32)) 2 ∧
                    zCT zZM zmX10_must [.ref 0, .int r70, .int (s69.1 16 (a1 - (1 : Int32)).toNatClampNeg)] s69 (zQv (fun s71 =>
                      Q none s71)) QX)) QX)) QX)))) QX) ∧ (¬ (σ.1 55 a1.toNatClampNeg) = 0 →
            vp_in (a1 - (1 : Int32)) 2 ∧
            zCT zZM zmX10_must [.ref 0, .int (0 : Int32), .int (s62.1 18 (a1 - (1 : Int32)).toNatClampNeg)] s62 (zQv (fun s72 =>
              ((a2 = (1 : Int32) →
                vp_in (a1 - (1 : Int32)) 2 ∧
                zCT zZM zmX10_must [.ref 0, .int (1 : Int32), .int (s72.1 17 (a1 - (1 : Int32)).toNatClampNeg)] s72 (zQv (fun s73 =>
                  vp_in (a1 - (1 : Int32)) 2 ∧
                  vp_in (a1 - (1 : Int32)) 2 ∧
                  zCT zZM zmX10_areRight [.int a1, .long (s73.2 14 (a1 - (1 : Int32)).toNatClampNeg), .long (s73.2 15 (a1 - (1 : Int32)).toNatClampNeg)] s73 (zQi (fun r75 s74 =>
                    vp_in (a1 - (1 : Int32)) 2 ∧
                    zCT zZM zmX10_must [.ref 0, .int r75, .int (s74.1 16 (a1 - (1 : Int32)).toNatClampNeg)] s74 (zQv (fun s76 =>
                      Q none s76)) QX)) QX)) QX) ∧ (¬ a2 = (1 : Int32) →
                vp_in (a1 - (1 : Int32)) 2 ∧
                zCT zZM zmX10_must [.ref 0, .int (0 : Int32), .int (s72.1 17 (a1 - (1 : Int32)).toNatClampNeg)] s72 (zQv (fun s77 =>
                  vp_in (a1 - (1 : Int32)) 2 ∧
                  vp_in (a1 - (1 : Int32)) 2 ∧
                  zCT zZM zmX10_areRight [.int a1, .long (s77.2 14 (a1 - (1 : Int32)).toNatClampNeg), .long (s77.2 15 (a1 - (1 : Int32)).toNatClampNeg)] s77 (zQi (fun r79 s78 =>
                    vp_in (a1 - (1 : Int32)) 2 ∧
                    zCT zZM zmX10_must [.ref 0, .int r79, .int (s78.1 16 (a1 - (1 : Int32)).toNatClampNeg)] s78 (zQv (fun s80 =>
                      Q none s80)) QX)) QX)) QX)))) QX)))))) QX))))
def LIX10_one  : Nat → Nat → zLo → zS → Prop := fun t n l τ => False
def JIX10_one  (Q : Option Value → zS → Prop) (QX : zS → Prop) : Nat → Option Nat → zLo → zS → Prop := fun t n l τ => False
set_option maxRecDepth 50000 in
theorem pX10_one_0  (Q : Option Value → zS → Prop) (QX : zS → Prop)  (a1 : Int32) (a2 : Int32) (σ : zS) (h : PX10_one_0  Q QX a1 a2 σ) : zwp JX10_one (zB hX10_one (zKt jnX10_one (JIX10_one  Q QX) (LIX10_one ) none 0)) Q QX kX10_one 0 (lv_args 0 [.ref 0, .ref 1, .int a1, .int a2]) [] σ := h
set_option maxRecDepth 50000 in
theorem rX10_one {Q : Option Value → zS → Prop} {QX : zS → Prop} {a1 : Int32} {a2 : Int32} {σ : zS}   (h0 : PX10_one_0  Q QX a1 a2 σ) : zCT zZM zmX10_one [.ref 0, .ref 1, .int a1, .int a2] σ Q QX := by
  refine zCT_of zZM_ok pnX10 (Nat.le_of_ble_eq_true rfl) kX10_one ksX10_one JX10_one 1 (fun t ht => ?_) hX10_one jnX10_one (JIX10_one  Q QX) (LIX10_one ) (fun n t ln σ' ht hj hI => ?_) (fun m t ln σ' ht hj hI => ?_) (pX10_one_0  Q QX a1 a2 σ h0)
  · cases ht
  · cases ht
  · cases ht
def JX10_signed : Nat → Bool := fun t => Nat.beq t 12 || Nat.beq t 68 || Nat.beq t 76
def jnX10_signed : Nat → Bool := fun t => Nat.beq t 68 || Nat.beq t 76
def hX10_signed : Nat → List Nat := fun t => bif Nat.beq t 12 then [0, 1, 2, 3, 4, 5, 7] else bif Nat.beq t 68 then [0, 4] else bif Nat.beq t 76 then [0, 1, 2, 3, 4, 5, 7, 8] else []
def PX10_signed_76 (K12 : Int32 → Int32 → Int32 → Int32 → Int64 → Int32 → zS → Prop) (Q : Option Value → zS → Prop) (QX : zS → Prop) (x1 : Int32) (x2 : Int32) (x3 : Int32) (x4 : Int32) (x5 : Int64) (x7 : Int32) (x8 : Int32) (σ : zS) : Prop :=
  (((128 : Int32) ≤ x8 →
    K12 x1 x2 x3 x4 x5 (x7 + 1) σ) ∧ (¬ (128 : Int32) ≤ x8 →
    (((x8 &&& (64 : Int32)) = 0 →
      Q (some (.long x5)) σ) ∧ (¬ (x8 &&& (64 : Int32)) = 0 →
      (((64 : Int32) ≤ (((7 : Int32) * x7) + (7 : Int32)) →
        Q (some (.long x5)) σ) ∧ (¬ (64 : Int32) ≤ (((7 : Int32) * x7) + (7 : Int32)) →
        Q (some (.long (x5 ||| ((-1 : Int64) <<< (((((7 : Int32) * x7) + (7 : Int32))).toInt64 &&& 63))))) σ))))))
def PX10_signed_68 (K12 : Int32 → Int32 → Int32 → Int32 → Int64 → Int32 → zS → Prop) (Q : Option Value → zS → Prop) (QX : zS → Prop) (x4 : Int32) (σ : zS) : Prop :=
  zCT zZM zmX10_wrong [.ref 0, .int (1 : Int32), .int x4] σ (zQr (fun r2 s1 =>
    o_athrow zYM 2 Q QX (fun _ _ _ _ => False) [] [.ref r2] s1)) QX
def PX10_signed_12 (K12 : Int32 → Int32 → Int32 → Int32 → Int64 → Int32 → zS → Prop) (Q : Option Value → zS → Prop) (QX : zS → Prop) (x1 : Int32) (x2 : Int32) (x3 : Int32) (x4 : Int32) (x5 : Int64) (x7 : Int32) (σ : zS) : Prop :=
  ((x1 ≤ x7 →
    Q (some (.long x5)) σ) ∧ (¬ x1 ≤ x7 →
    zCT zZM zmX10_octet [.ref 0] σ (zQi (fun r2 s1 =>
      ((x7 = (x1 - (1 : Int32)) →
        ((r2 ≤ x2 →
          PX10_signed_76 K12 Q QX x1 x2 x3 x4 (x5 ||| (((r2 &&& (127 : Int32)).toInt64) <<< ((((7 : Int32) * x7)).toInt64 &&& 63))) x7 r2 s1) ∧ (¬ r2 ≤ x2 →
          ((r2 < x3 →
            PX10_signed_68 K12 Q QX x4 s1) ∧ (¬ r2 < x3 →
            ((r2 ≤ (127 : Int32) →
              PX10_signed_76 K12 Q QX x1 x2 x3 x4 (x5 ||| (((r2 &&& (127 : Int32)).toInt64) <<< ((((7 : Int32) * x7)).toInt64 &&& 63))) x7 r2 s1) ∧ (¬ r2 ≤ (127 : Int32) →
              PX10_signed_68 K12 Q QX x4 s1))))))) ∧ (¬ x7 = (x1 - (1 : Int32)) →
        PX10_signed_76 K12 Q QX x1 x2 x3 x4 (x5 ||| (((r2 &&& (127 : Int32)).toInt64) <<< ((((7 : Int32) * x7)).toInt64 &&& 63))) x7 r2 s1)))) QX))
def PX10_signed_0 (K12 : Int32 → Int32 → Int32 → Int32 → Int64 → Int32 → zS → Prop) (Q : Option Value → zS → Prop) (QX : zS → Prop) (a1 : Int32) (a2 : Int32) (a3 : Int32) (σ : zS) : Prop :=
  K12 a1 a2 a3 (σ.1 0 12) (0 : Int64) (0 : Int32) σ
def LIX10_signed (I12 : Nat → Int32 → Int32 → Int32 → Int32 → Int64 → Int32 → zS → Prop) : Nat → Nat → zLo → zS → Prop := fun t n l τ => bif Nat.beq t 12 then zdR 0 0 (zdI 1 (fun x1 => zdI 2 (fun x2 => zdI 3 (fun x3 => zdI 4 (fun x4 => zdL 5 (fun x5 => zdI 7 (fun x7 => zdN (I12 n x1 x2 x3 x4 x5 x7 τ)))))))) l else False
def JIX10_signed (I12 : Nat → Int32 → Int32 → Int32 → Int32 → Int64 → Int32 → zS → Prop) (Q : Option Value → zS → Prop) (QX : zS → Prop) : Nat → Option Nat → zLo → zS → Prop := fun t n l τ => bif Nat.beq t 68 then zdR 0 0 (zdI 4 (fun x4 => zdN (PX10_signed_68 (fun y1 y2 y3 y4 y5 y7 τ => ∃ n', zlt n' n ∧ I12 n' y1 y2 y3 y4 y5 y7 τ) Q QX x4 τ))) l else bif Nat.beq t 76 then zdR 0 0 (zdI 1 (fun x1 => zdI 2 (fun x2 => zdI 3 (fun x3 => zdI 4 (fun x4 => zdL 5 (fun x5 => zdI 7 (fun x7 => zdI 8 (fun x8 => zdN (PX10_signed_76 (fun y1 y2 y3 y4 y5 y7 τ => ∃ n', zlt n' n ∧ I12 n' y1 y2 y3 y4 y5 y7 τ) Q QX x1 x2 x3 x4 x5 x7 x8 τ))))))))) l else False
set_option maxRecDepth 50000 in
theorem pX10_signed_0 (I12 : Nat → Int32 → Int32 → Int32 → Int32 → Int64 → Int32 → zS → Prop) (Q : Option Value → zS → Prop) (QX : zS → Prop)  (a1 : Int32) (a2 : Int32) (a3 : Int32) (σ : zS) (h : PX10_signed_0 (fun y1 y2 y3 y4 y5 y7 τ => ∃ n', zlt n' none ∧ I12 n' y1 y2 y3 y4 y5 y7 τ) Q QX a1 a2 a3 σ) : zwp JX10_signed (zB hX10_signed (zKt jnX10_signed (JIX10_signed I12 Q QX) (LIX10_signed I12) none 0)) Q QX kX10_signed 0 (lv_args 0 [.ref 0, .int a1, .int a2, .int a3]) [] σ := h
set_option maxRecDepth 50000 in
theorem pX10_signed_12 (I12 : Nat → Int32 → Int32 → Int32 → Int32 → Int64 → Int32 → zS → Prop) (Q : Option Value → zS → Prop) (QX : zS → Prop) (m : Nat) (x1 : Int32) (x2 : Int32) (x3 : Int32) (x4 : Int32) (x5 : Int64) (x7 : Int32) (σ : zS) (h : PX10_signed_12 (fun y1 y2 y3 y4 y5 y7 τ => ∃ n', zlt n' (some m) ∧ I12 n' y1 y2 y3 y4 y5 y7 τ) Q QX x1 x2 x3 x4 x5 x7 σ) : zwp JX10_signed (zB hX10_signed (zKt jnX10_signed (JIX10_signed I12 Q QX) (LIX10_signed I12) (some m) 12)) Q QX kX10_signed 12 [(0, .ref 0), (1, .int x1), (2, .int x2), (3, .int x3), (4, .int x4), (5, .long x5), (7, .int x7)] [] σ := h
set_option maxRecDepth 50000 in
theorem pX10_signed_68 (I12 : Nat → Int32 → Int32 → Int32 → Int32 → Int64 → Int32 → zS → Prop) (Q : Option Value → zS → Prop) (QX : zS → Prop) (n : Option Nat) (x4 : Int32) (σ : zS) (h : PX10_signed_68 (fun y1 y2 y3 y4 y5 y7 τ => ∃ n', zlt n' n ∧ I12 n' y1 y2 y3 y4 y5 y7 τ) Q QX x4 σ) : zwp JX10_signed (zB hX10_signed (zKt jnX10_signed (JIX10_signed I12 Q QX) (LIX10_signed I12) n 68)) Q QX kX10_signed 68 [(0, .ref 0), (4, .int x4)] [] σ := h
set_option maxRecDepth 50000 in
theorem pX10_signed_76 (I12 : Nat → Int32 → Int32 → Int32 → Int32 → Int64 → Int32 → zS → Prop) (Q : Option Value → zS → Prop) (QX : zS → Prop) (n : Option Nat) (x1 : Int32) (x2 : Int32) (x3 : Int32) (x4 : Int32) (x5 : Int64) (x7 : Int32) (x8 : Int32) (σ : zS) (h : PX10_signed_76 (fun y1 y2 y3 y4 y5 y7 τ => ∃ n', zlt n' n ∧ I12 n' y1 y2 y3 y4 y5 y7 τ) Q QX x1 x2 x3 x4 x5 x7 x8 σ) : zwp JX10_signed (zB hX10_signed (zKt jnX10_signed (JIX10_signed I12 Q QX) (LIX10_signed I12) n 76)) Q QX kX10_signed 76 [(0, .ref 0), (1, .int x1), (2, .int x2), (3, .int x3), (4, .int x4), (5, .long x5), (7, .int x7), (8, .int x8)] [] σ := h
set_option maxRecDepth 50000 in
theorem rX10_signed {Q : Option Value → zS → Prop} {QX : zS → Prop} {a1 : Int32} {a2 : Int32} {a3 : Int32} {σ : zS} (I12 : Nat → Int32 → Int32 → Int32 → Int32 → Int64 → Int32 → zS → Prop) (hs12 : ∀ (m : Nat) (x1 : Int32) (x2 : Int32) (x3 : Int32) (x4 : Int32) (x5 : Int64) (x7 : Int32) (σ : zS), I12 m x1 x2 x3 x4 x5 x7 σ → PX10_signed_12 (fun y1 y2 y3 y4 y5 y7 τ => ∃ n', zlt n' (some m) ∧ I12 n' y1 y2 y3 y4 y5 y7 τ) Q QX x1 x2 x3 x4 x5 x7 σ) (h0 : PX10_signed_0 (fun y1 y2 y3 y4 y5 y7 τ => ∃ n', zlt n' none ∧ I12 n' y1 y2 y3 y4 y5 y7 τ) Q QX a1 a2 a3 σ) : zCT zZM zmX10_signed [.ref 0, .int a1, .int a2, .int a3] σ Q QX := by
  refine zCT_of zZM_ok pnX10 (Nat.le_of_ble_eq_true rfl) kX10_signed ksX10_signed JX10_signed 77 (fun t ht => ?_) hX10_signed jnX10_signed (JIX10_signed I12 Q QX) (LIX10_signed I12) (fun n t ln σ' ht hj hI => ?_) (fun m t ln σ' ht hj hI => ?_) (pX10_signed_0 I12 Q QX a1 a2 a3 σ h0)
  · refine zor ht (fun ht => ?_) (fun ht => ?_)
    · skip
      refine zor ht (fun ht => ?_) (fun ht => ?_)
      · skip
        have et := Nat.eq_of_beq_eq_true ht; subst et
        exact Nat.le_of_ble_eq_true rfl
      · skip
        have et := Nat.eq_of_beq_eq_true ht; subst et
        exact Nat.le_of_ble_eq_true rfl
    · skip
      have et := Nat.eq_of_beq_eq_true ht; subst et
      exact Nat.le_of_ble_eq_true rfl
  · refine zor ht (fun ht => ?_) (fun ht => ?_)
    · skip
      refine zor ht (fun ht => ?_) (fun ht => ?_)
      · skip
        have et := Nat.eq_of_beq_eq_true ht; subst et
        cases hj
      · skip
        have et := Nat.eq_of_beq_eq_true ht; subst et
        have hI : JIX10_signed I12 Q QX 68 n ln σ' := hI
        obtain ⟨l0, e0, hI⟩ := zdR_e (i := 0) (q := 0) hI; subst e0
        obtain ⟨x4, l4, e4, hI⟩ := zdI_e (i := 4) hI; subst e4
        obtain ⟨e, hI⟩ := zdN_e hI; subst e
        exact pX10_signed_68 I12 Q QX n x4 σ' hI
    · skip
      have et := Nat.eq_of_beq_eq_true ht; subst et
      have hI : JIX10_signed I12 Q QX 76 n ln σ' := hI
      obtain ⟨l0, e0, hI⟩ := zdR_e (i := 0) (q := 0) hI; subst e0
      obtain ⟨x1, l1, e1, hI⟩ := zdI_e (i := 1) hI; subst e1
      obtain ⟨x2, l2, e2, hI⟩ := zdI_e (i := 2) hI; subst e2
      obtain ⟨x3, l3, e3, hI⟩ := zdI_e (i := 3) hI; subst e3
      obtain ⟨x4, l4, e4, hI⟩ := zdI_e (i := 4) hI; subst e4
      obtain ⟨x5, l5, e5, hI⟩ := zdL_e (i := 5) hI; subst e5
      obtain ⟨x7, l7, e7, hI⟩ := zdI_e (i := 7) hI; subst e7
      obtain ⟨x8, l8, e8, hI⟩ := zdI_e (i := 8) hI; subst e8
      obtain ⟨e, hI⟩ := zdN_e hI; subst e
      exact pX10_signed_76 I12 Q QX n x1 x2 x3 x4 x5 x7 x8 σ' hI
  · refine zor ht (fun ht => ?_) (fun ht => ?_)
    · skip
      refine zor ht (fun ht => ?_) (fun ht => ?_)
      · skip
        have et := Nat.eq_of_beq_eq_true ht; subst et
        have hI : LIX10_signed I12 12 m ln σ' := hI
        obtain ⟨l0, e0, hI⟩ := zdR_e (i := 0) (q := 0) hI; subst e0
        obtain ⟨x1, l1, e1, hI⟩ := zdI_e (i := 1) hI; subst e1
        obtain ⟨x2, l2, e2, hI⟩ := zdI_e (i := 2) hI; subst e2
        obtain ⟨x3, l3, e3, hI⟩ := zdI_e (i := 3) hI; subst e3
        obtain ⟨x4, l4, e4, hI⟩ := zdI_e (i := 4) hI; subst e4
        obtain ⟨x5, l5, e5, hI⟩ := zdL_e (i := 5) hI; subst e5
        obtain ⟨x7, l7, e7, hI⟩ := zdI_e (i := 7) hI; subst e7
        obtain ⟨e, hI⟩ := zdN_e hI; subst e
        exact pX10_signed_12 I12 Q QX m x1 x2 x3 x4 x5 x7 σ' (hs12 m x1 x2 x3 x4 x5 x7 σ' hI)
      · skip
        have et := Nat.eq_of_beq_eq_true ht; subst et
        cases hj
    · skip
      have et := Nat.eq_of_beq_eq_true ht; subst et
      cases hj
def JX10_type : Nat → Bool := fun t => false && Nat.beq t 0
def jnX10_type : Nat → Bool := fun t => false && Nat.beq t 0
def hX10_type : Nat → List Nat := fun t => []
def PX10_type_0  (Q : Option Value → zS → Prop) (QX : zS → Prop)  (σ : zS) : Prop :=
  zCT zZM zmX10_octet [.ref 0] σ (zQi (fun r2 s1 =>
    ((r2 = (127 : Int32) →
      Q (some (.int ((127 : Int32) - r2))) s1) ∧ (¬ r2 = (127 : Int32) →
      ((r2 = (126 : Int32) →
        Q (some (.int ((127 : Int32) - r2))) s1) ∧ (¬ r2 = (126 : Int32) →
        zCT zZM zmX10_wrong [.ref 0, .int (1 : Int32), .int (σ.1 0 12)] s1 (zQr (fun r4 s3 =>
          o_athrow zYM 2 Q QX (fun _ _ _ _ => False) [] [.ref r4] s3)) QX)))))) QX
def LIX10_type  : Nat → Nat → zLo → zS → Prop := fun t n l τ => False
def JIX10_type  (Q : Option Value → zS → Prop) (QX : zS → Prop) : Nat → Option Nat → zLo → zS → Prop := fun t n l τ => False
set_option maxRecDepth 50000 in
theorem pX10_type_0  (Q : Option Value → zS → Prop) (QX : zS → Prop)   (σ : zS) (h : PX10_type_0  Q QX  σ) : zwp JX10_type (zB hX10_type (zKt jnX10_type (JIX10_type  Q QX) (LIX10_type ) none 0)) Q QX kX10_type 0 (lv_args 0 [.ref 0]) [] σ := h
set_option maxRecDepth 50000 in
theorem rX10_type {Q : Option Value → zS → Prop} {QX : zS → Prop}  {σ : zS}   (h0 : PX10_type_0  Q QX  σ) : zCT zZM zmX10_type [.ref 0] σ Q QX := by
  refine zCT_of zZM_ok pnX10 (Nat.le_of_ble_eq_true rfl) kX10_type ksX10_type JX10_type 1 (fun t ht => ?_) hX10_type jnX10_type (JIX10_type  Q QX) (LIX10_type ) (fun n t ln σ' ht hj hI => ?_) (fun m t ln σ' ht hj hI => ?_) (pX10_type_0  Q QX  σ h0)
  · cases ht
  · cases ht
  · cases ht
def JX10_u : Nat → Bool := fun t => Nat.beq t 10
def jnX10_u : Nat → Bool := fun t => false && Nat.beq t 0
def hX10_u : Nat → List Nat := fun t => bif Nat.beq t 10 then [0, 1, 2, 4] else []
def PX10_u_10 (K10 : Int32 → Int64 → Int32 → zS → Prop) (Q : Option Value → zS → Prop) (QX : zS → Prop) (x1 : Int32) (x2 : Int64) (x4 : Int32) (σ : zS) : Prop :=
  (((5 : Int32) ≤ x4 →
    Q (some (.long x2)) σ) ∧ (¬ (5 : Int32) ≤ x4 →
    zCT zZM zmX10_octet [.ref 0] σ (zQi (fun r2 s1 =>
      ((x4 = (4 : Int32) →
        ((r2 ≤ (15 : Int32) →
          (((128 : Int32) ≤ r2 →
            K10 x1 (x2 ||| (((r2 &&& (127 : Int32)).toInt64) <<< ((((7 : Int32) * x4)).toInt64 &&& 63))) (x4 + 1) s1) ∧ (¬ (128 : Int32) ≤ r2 →
            Q (some (.long (x2 ||| (((r2 &&& (127 : Int32)).toInt64) <<< ((((7 : Int32) * x4)).toInt64 &&& 63))))) s1))) ∧ (¬ r2 ≤ (15 : Int32) →
          zCT zZM zmX10_wrong [.ref 0, .int (1 : Int32), .int x1] s1 (zQr (fun r4 s3 =>
            o_athrow zYM 2 Q QX (fun _ _ _ _ => False) [] [.ref r4] s3)) QX))) ∧ (¬ x4 = (4 : Int32) →
        (((128 : Int32) ≤ r2 →
          K10 x1 (x2 ||| (((r2 &&& (127 : Int32)).toInt64) <<< ((((7 : Int32) * x4)).toInt64 &&& 63))) (x4 + 1) s1) ∧ (¬ (128 : Int32) ≤ r2 →
          Q (some (.long (x2 ||| (((r2 &&& (127 : Int32)).toInt64) <<< ((((7 : Int32) * x4)).toInt64 &&& 63))))) s1)))))) QX))
def PX10_u_0 (K10 : Int32 → Int64 → Int32 → zS → Prop) (Q : Option Value → zS → Prop) (QX : zS → Prop)  (σ : zS) : Prop :=
  K10 (σ.1 0 12) (0 : Int64) (0 : Int32) σ
def LIX10_u (I10 : Nat → Int32 → Int64 → Int32 → zS → Prop) : Nat → Nat → zLo → zS → Prop := fun t n l τ => bif Nat.beq t 10 then zdR 0 0 (zdI 1 (fun x1 => zdL 2 (fun x2 => zdI 4 (fun x4 => zdN (I10 n x1 x2 x4 τ))))) l else False
def JIX10_u (I10 : Nat → Int32 → Int64 → Int32 → zS → Prop) (Q : Option Value → zS → Prop) (QX : zS → Prop) : Nat → Option Nat → zLo → zS → Prop := fun t n l τ => False
set_option maxRecDepth 50000 in
theorem pX10_u_0 (I10 : Nat → Int32 → Int64 → Int32 → zS → Prop) (Q : Option Value → zS → Prop) (QX : zS → Prop)   (σ : zS) (h : PX10_u_0 (fun y1 y2 y4 τ => ∃ n', zlt n' none ∧ I10 n' y1 y2 y4 τ) Q QX  σ) : zwp JX10_u (zB hX10_u (zKt jnX10_u (JIX10_u I10 Q QX) (LIX10_u I10) none 0)) Q QX kX10_u 0 (lv_args 0 [.ref 0]) [] σ := h
set_option maxRecDepth 50000 in
theorem pX10_u_10 (I10 : Nat → Int32 → Int64 → Int32 → zS → Prop) (Q : Option Value → zS → Prop) (QX : zS → Prop) (m : Nat) (x1 : Int32) (x2 : Int64) (x4 : Int32) (σ : zS) (h : PX10_u_10 (fun y1 y2 y4 τ => ∃ n', zlt n' (some m) ∧ I10 n' y1 y2 y4 τ) Q QX x1 x2 x4 σ) : zwp JX10_u (zB hX10_u (zKt jnX10_u (JIX10_u I10 Q QX) (LIX10_u I10) (some m) 10)) Q QX kX10_u 10 [(0, .ref 0), (1, .int x1), (2, .long x2), (4, .int x4)] [] σ := h
set_option maxRecDepth 50000 in
theorem rX10_u {Q : Option Value → zS → Prop} {QX : zS → Prop}  {σ : zS} (I10 : Nat → Int32 → Int64 → Int32 → zS → Prop) (hs10 : ∀ (m : Nat) (x1 : Int32) (x2 : Int64) (x4 : Int32) (σ : zS), I10 m x1 x2 x4 σ → PX10_u_10 (fun y1 y2 y4 τ => ∃ n', zlt n' (some m) ∧ I10 n' y1 y2 y4 τ) Q QX x1 x2 x4 σ) (h0 : PX10_u_0 (fun y1 y2 y4 τ => ∃ n', zlt n' none ∧ I10 n' y1 y2 y4 τ) Q QX  σ) : zCT zZM zmX10_u [.ref 0] σ Q QX := by
  refine zCT_of zZM_ok pnX10 (Nat.le_of_ble_eq_true rfl) kX10_u ksX10_u JX10_u 11 (fun t ht => ?_) hX10_u jnX10_u (JIX10_u I10 Q QX) (LIX10_u I10) (fun n t ln σ' ht hj hI => ?_) (fun m t ln σ' ht hj hI => ?_) (pX10_u_0 I10 Q QX  σ h0)
  · have et := Nat.eq_of_beq_eq_true ht; subst et
    exact Nat.le_of_ble_eq_true rfl
  · have et := Nat.eq_of_beq_eq_true ht; subst et
    cases hj
  · have et := Nat.eq_of_beq_eq_true ht; subst et
    have hI : LIX10_u I10 10 m ln σ' := hI
    obtain ⟨l0, e0, hI⟩ := zdR_e (i := 0) (q := 0) hI; subst e0
    obtain ⟨x1, l1, e1, hI⟩ := zdI_e (i := 1) hI; subst e1
    obtain ⟨x2, l2, e2, hI⟩ := zdL_e (i := 2) hI; subst e2
    obtain ⟨x4, l4, e4, hI⟩ := zdI_e (i := 4) hI; subst e4
    obtain ⟨e, hI⟩ := zdN_e hI; subst e
    exact pX10_u_10 I10 Q QX m x1 x2 x4 σ' (hs10 m x1 x2 x4 σ' hI)
def JX10_access : Nat → Bool := fun t => false && Nat.beq t 0
def jnX10_access : Nat → Bool := fun t => false && Nat.beq t 0
def hX10_access : Nat → List Nat := fun t => []
def PX10_access_0  (Q : Option Value → zS → Prop) (QX : zS → Prop) (a1 : Int32) (σ : zS) : Prop :=
  zCT zZM zmX10_u [.ref 0] σ (zQl (fun r2 s1 =>
    zCT zZM zmX10_u [.ref 0] s1 (zQl (fun r4 s3 =>
      zCT zZM zmX9_has [.ref 1, .int (2 : Int32)] s3 (zQi (fun r6 s5 =>
        ((r6 = 0 →
          zCT zZM zmX10_need [.ref 0, .int (0 : Int32)] s5 (zQv (fun s7 =>
            zCT zZM zmX10_isStore [.int a1] s7 (zQi (fun r9 s8 =>
              ((r9 = 0 →
                zCT zZM zmX10_valueType [.int a1] s8 (zQi (fun r11 s10 =>
                  zCT zZM zmX10_turns [.ref 0, .int (0 : Int32), .int (1 : Int32), .int r11] s10 (zQv (fun s12 =>
                    Q none s12)) QX)) QX) ∧ (¬ r9 = 0 →
                zCT zZM zmX10_valueType [.int a1] s8 (zQi (fun r14 s13 =>
                  zCT zZM zmX10_takes [.ref 0, .int r14] s13 (zQi (fun r16 s15 =>
                    zCT zZM zmX10_takes [.ref 0, .int (0 : Int32)] s15 (zQi (fun r18 s17 =>
                      Q none s17)) QX)) QX)) QX)))) QX)) QX) ∧ (¬ r6 = 0 →
          zCT zZM zmX10_width [.int a1] s5 (zQi (fun r20 s19 =>
            (((r20.toInt64) < r2 →
              zCT zZM zmX10_need [.ref 0, .int (0 : Int32)] s19 (zQv (fun s21 =>
                zCT zZM zmX10_isStore [.int a1] s21 (zQi (fun r23 s22 =>
                  ((r23 = 0 →
                    zCT zZM zmX10_valueType [.int a1] s22 (zQi (fun r25 s24 =>
                      zCT zZM zmX10_turns [.ref 0, .int (0 : Int32), .int (1 : Int32), .int r25] s24 (zQv (fun s26 =>
                        Q none s26)) QX)) QX) ∧ (¬ r23 = 0 →
                    zCT zZM zmX10_valueType [.int a1] s22 (zQi (fun r28 s27 =>
                      zCT zZM zmX10_takes [.ref 0, .int r28] s27 (zQi (fun r30 s29 =>
                        zCT zZM zmX10_takes [.ref 0, .int (0 : Int32)] s29 (zQi (fun r32 s31 =>
                          Q none s31)) QX)) QX)) QX)))) QX)) QX) ∧ (¬ (r20.toInt64) < r2 →
              zCT zZM zmX10_need [.ref 0, .int (1 : Int32)] s19 (zQv (fun s33 =>
                zCT zZM zmX10_isStore [.int a1] s33 (zQi (fun r35 s34 =>
                  ((r35 = 0 →
                    zCT zZM zmX10_valueType [.int a1] s34 (zQi (fun r37 s36 =>
                      zCT zZM zmX10_turns [.ref 0, .int (0 : Int32), .int (1 : Int32), .int r37] s36 (zQv (fun s38 =>
                        Q none s38)) QX)) QX) ∧ (¬ r35 = 0 →
                    zCT zZM zmX10_valueType [.int a1] s34 (zQi (fun r40 s39 =>
                      zCT zZM zmX10_takes [.ref 0, .int r40] s39 (zQi (fun r42 s41 =>
                        zCT zZM zmX10_takes [.ref 0, .int (0 : Int32)] s41 (zQi (fun r44 s43 =>
                          Q none s43)) QX)) QX)) QX)))) QX)) QX)))) QX)))) QX)) QX)) QX
def LIX10_access  : Nat → Nat → zLo → zS → Prop := fun t n l τ => False
def JIX10_access  (Q : Option Value → zS → Prop) (QX : zS → Prop) : Nat → Option Nat → zLo → zS → Prop := fun t n l τ => False
set_option maxRecDepth 50000 in
theorem pX10_access_0  (Q : Option Value → zS → Prop) (QX : zS → Prop)  (a1 : Int32) (σ : zS) (h : PX10_access_0  Q QX a1 σ) : zwp JX10_access (zB hX10_access (zKt jnX10_access (JIX10_access  Q QX) (LIX10_access ) none 0)) Q QX kX10_access 0 (lv_args 0 [.ref 0, .ref 1, .int a1]) [] σ := h
set_option maxRecDepth 50000 in
theorem rX10_access {Q : Option Value → zS → Prop} {QX : zS → Prop} {a1 : Int32} {σ : zS}   (h0 : PX10_access_0  Q QX a1 σ) : zCT zZM zmX10_access [.ref 0, .ref 1, .int a1] σ Q QX := by
  refine zCT_of zZM_ok pnX10 (Nat.le_of_ble_eq_true rfl) kX10_access ksX10_access JX10_access 1 (fun t ht => ?_) hX10_access jnX10_access (JIX10_access  Q QX) (LIX10_access ) (fun n t ln σ' ht hj hI => ?_) (fun m t ln σ' ht hj hI => ?_) (pX10_access_0  Q QX a1 σ h0)
  · cases ht
  · cases ht
  · cases ht
def JX10_checkMany : Nat → Bool := fun t => Nat.beq t 37 || Nat.beq t 71 || Nat.beq t 76 || Nat.beq t 92 || Nat.beq t 102 || Nat.beq t 118 || Nat.beq t 138 || Nat.beq t 154 || Nat.beq t 174 || Nat.beq t 198 || Nat.beq t 207 || Nat.beq t 223 || Nat.beq t 232
def jnX10_checkMany : Nat → Bool := fun t => Nat.beq t 37 || Nat.beq t 71 || Nat.beq t 76 || Nat.beq t 92 || Nat.beq t 102 || Nat.beq t 118 || Nat.beq t 138 || Nat.beq t 154 || Nat.beq t 174 || Nat.beq t 198 || Nat.beq t 207 || Nat.beq t 223 || Nat.beq t 232
def hX10_checkMany : Nat → List Nat := fun t => bif Nat.beq t 37 then [0, 1, 2] else bif Nat.beq t 71 then [0, 1, 2, 4] else bif Nat.beq t 76 then [0, 1, 2, 4] else bif Nat.beq t 92 then [0, 1, 2, 4] else bif Nat.beq t 102 then [0, 1, 2, 4] else bif Nat.beq t 118 then [0, 1, 2, 4] else bif Nat.beq t 138 then [0, 1, 2, 4] else bif Nat.beq t 154 then [0, 1, 2, 4] else bif Nat.beq t 174 then [0, 1, 2] else bif Nat.beq t 198 then [0, 1, 2] else bif Nat.beq t 207 then [0, 1, 2] else bif Nat.beq t 223 then [0, 1, 2] else bif Nat.beq t 232 then [0, 2] else []
def PX10_checkMany_232  (Q : Option Value → zS → Prop) (QX : zS → Prop) (x2 : Int64) (σ : zS) : Prop :=
  ((x2 = (9 : Int64) →
    Q none σ) ∧ (¬ x2 = (9 : Int64) →
    ((x2 = (13 : Int64) →
      Q none σ) ∧ (¬ x2 = (13 : Int64) →
      zCT zZM zmX10_turns [.ref 0, .int (0 : Int32), .int (3 : Int32), .int (2 : Int32)] σ (zQv (fun s1 =>
        Q none s1)) QX))))
def PX10_checkMany_223  (Q : Option Value → zS → Prop) (QX : zS → Prop) (x2 : Int64) (σ : zS) : Prop :=
  zCT zZM zmX9_has [.ref 1, .int (1 : Int32)] σ (zQi (fun r2 s1 =>
    zCT zZM zmX10_need [.ref 0, .int r2] s1 (zQv (fun s3 =>
      PX10_checkMany_232 Q QX x2 s3)) QX)) QX
def PX10_checkMany_207  (Q : Option Value → zS → Prop) (QX : zS → Prop) (x2 : Int64) (σ : zS) : Prop :=
  ((x2 = (12 : Int64) →
    PX10_checkMany_223 Q QX x2 σ) ∧ (¬ x2 = (12 : Int64) →
    ((x2 = (14 : Int64) →
      PX10_checkMany_223 Q QX x2 σ) ∧ (¬ x2 = (14 : Int64) →
      PX10_checkMany_232 Q QX x2 σ))))
def PX10_checkMany_198  (Q : Option Value → zS → Prop) (QX : zS → Prop) (x2 : Int64) (σ : zS) : Prop :=
  zCT zZM zmX9_has [.ref 1, .int (2 : Int32)] σ (zQi (fun r2 s1 =>
    zCT zZM zmX10_need [.ref 0, .int r2] s1 (zQv (fun s3 =>
      PX10_checkMany_207 Q QX x2 s3)) QX)) QX
def PX10_checkMany_174  (Q : Option Value → zS → Prop) (QX : zS → Prop) (x2 : Int64) (σ : zS) : Prop :=
  ((x2 = (8 : Int64) →
    PX10_checkMany_198 Q QX x2 σ) ∧ (¬ x2 = (8 : Int64) →
    ((x2 = (10 : Int64) →
      PX10_checkMany_198 Q QX x2 σ) ∧ (¬ x2 = (10 : Int64) →
      ((x2 = (11 : Int64) →
        PX10_checkMany_198 Q QX x2 σ) ∧ (¬ x2 = (11 : Int64) →
        PX10_checkMany_207 Q QX x2 σ))))))
def PX10_checkMany_154  (Q : Option Value → zS → Prop) (QX : zS → Prop) (x2 : Int64) (x4 : Int64) (σ : zS) : Prop :=
  ((((σ.1 1 7).toInt64) ≤ x4 →
    zCT zZM zmX10_need [.ref 0, .int (0 : Int32)] σ (zQv (fun s1 =>
      PX10_checkMany_174 Q QX x2 s1)) QX) ∧ (¬ ((σ.1 1 7).toInt64) ≤ x4 →
    zCT zZM zmX10_need [.ref 0, .int (1 : Int32)] σ (zQv (fun s2 =>
      PX10_checkMany_174 Q QX x2 s2)) QX))
def PX10_checkMany_138  (Q : Option Value → zS → Prop) (QX : zS → Prop) (x2 : Int64) (x4 : Int64) (σ : zS) : Prop :=
  ((x2 = (12 : Int64) →
    PX10_checkMany_154 Q QX x2 x4 σ) ∧ (¬ x2 = (12 : Int64) →
    ((x2 = (13 : Int64) →
      PX10_checkMany_154 Q QX x2 x4 σ) ∧ (¬ x2 = (13 : Int64) →
      PX10_checkMany_174 Q QX x2 σ))))
def PX10_checkMany_118  (Q : Option Value → zS → Prop) (QX : zS → Prop) (x2 : Int64) (x4 : Int64) (σ : zS) : Prop :=
  ((((σ.1 1 8).toInt64) ≤ x4 →
    zCT zZM zmX10_need [.ref 0, .int (0 : Int32)] σ (zQv (fun s1 =>
      PX10_checkMany_138 Q QX x2 x4 s1)) QX) ∧ (¬ ((σ.1 1 8).toInt64) ≤ x4 →
    zCT zZM zmX10_need [.ref 0, .int (1 : Int32)] σ (zQv (fun s2 =>
      PX10_checkMany_138 Q QX x2 x4 s2)) QX))
def PX10_checkMany_102  (Q : Option Value → zS → Prop) (QX : zS → Prop) (x2 : Int64) (x4 : Int64) (σ : zS) : Prop :=
  ((x2 = (8 : Int64) →
    PX10_checkMany_118 Q QX x2 x4 σ) ∧ (¬ x2 = (8 : Int64) →
    ((x2 = (9 : Int64) →
      PX10_checkMany_118 Q QX x2 x4 σ) ∧ (¬ x2 = (9 : Int64) →
      PX10_checkMany_138 Q QX x2 x4 σ))))
def PX10_checkMany_92  (Q : Option Value → zS → Prop) (QX : zS → Prop) (x2 : Int64) (x4 : Int64) (σ : zS) : Prop :=
  zCT zZM zmX10_needOctet [.ref 0, .int (0 : Int32)] σ (zQv (fun s1 =>
    zCT zZM zmX10_needOctet [.ref 0, .int (0 : Int32)] s1 (zQv (fun s2 =>
      PX10_checkMany_102 Q QX x2 x4 s2)) QX)) QX
def PX10_checkMany_76  (Q : Option Value → zS → Prop) (QX : zS → Prop) (x2 : Int64) (x4 : Int64) (σ : zS) : Prop :=
  ((x2 = (10 : Int64) →
    PX10_checkMany_92 Q QX x2 x4 σ) ∧ (¬ x2 = (10 : Int64) →
    ((x2 = (14 : Int64) →
      PX10_checkMany_92 Q QX x2 x4 σ) ∧ (¬ x2 = (14 : Int64) →
      PX10_checkMany_102 Q QX x2 x4 σ))))
def PX10_checkMany_71  (Q : Option Value → zS → Prop) (QX : zS → Prop) (x2 : Int64) (x4 : Int64) (σ : zS) : Prop :=
  zCT zZM zmX10_needOctet [.ref 0, .int (0 : Int32)] σ (zQv (fun s1 =>
    PX10_checkMany_76 Q QX x2 x4 s1)) QX
def PX10_checkMany_37  (Q : Option Value → zS → Prop) (QX : zS → Prop) (x2 : Int64) (σ : zS) : Prop :=
  zCT zZM zmX10_u [.ref 0] σ (zQl (fun r2 s1 =>
    ((x2 = (8 : Int64) →
      PX10_checkMany_71 Q QX x2 r2 s1) ∧ (¬ x2 = (8 : Int64) →
      ((x2 = (11 : Int64) →
        PX10_checkMany_71 Q QX x2 r2 s1) ∧ (¬ x2 = (11 : Int64) →
        ((x2 = (12 : Int64) →
          PX10_checkMany_71 Q QX x2 r2 s1) ∧ (¬ x2 = (12 : Int64) →
          PX10_checkMany_76 Q QX x2 r2 s1)))))))) QX
def PX10_checkMany_0  (Q : Option Value → zS → Prop) (QX : zS → Prop)  (σ : zS) : Prop :=
  zCT zZM zmX10_u [.ref 0] σ (zQl (fun r2 s1 =>
    ((r2 = (8 : Int64) →
      PX10_checkMany_37 Q QX r2 s1) ∧ (¬ r2 = (8 : Int64) →
      ((r2 = (9 : Int64) →
        PX10_checkMany_37 Q QX r2 s1) ∧ (¬ r2 = (9 : Int64) →
        ((r2 = (12 : Int64) →
          PX10_checkMany_37 Q QX r2 s1) ∧ (¬ r2 = (12 : Int64) →
          ((r2 = (13 : Int64) →
            PX10_checkMany_37 Q QX r2 s1) ∧ (¬ r2 = (13 : Int64) →
            ((r2 = (8 : Int64) →
              PX10_checkMany_71 Q QX r2 (0 : Int64) s1) ∧ (¬ r2 = (8 : Int64) →
              ((r2 = (11 : Int64) →
                PX10_checkMany_71 Q QX r2 (0 : Int64) s1) ∧ (¬ r2 = (11 : Int64) →
                ((r2 = (12 : Int64) →
                  PX10_checkMany_71 Q QX r2 (0 : Int64) s1) ∧ (¬ r2 = (12 : Int64) →
                  PX10_checkMany_76 Q QX r2 (0 : Int64) s1)))))))))))))))) QX
def LIX10_checkMany  : Nat → Nat → zLo → zS → Prop := fun t n l τ => False
def JIX10_checkMany  (Q : Option Value → zS → Prop) (QX : zS → Prop) : Nat → Option Nat → zLo → zS → Prop := fun t n l τ => bif Nat.beq t 37 then zdR 0 0 (zdR 1 1 (zdL 2 (fun x2 => zdN (PX10_checkMany_37  Q QX x2 τ)))) l else bif Nat.beq t 71 then zdR 0 0 (zdR 1 1 (zdL 2 (fun x2 => zdL 4 (fun x4 => zdN (PX10_checkMany_71  Q QX x2 x4 τ))))) l else bif Nat.beq t 76 then zdR 0 0 (zdR 1 1 (zdL 2 (fun x2 => zdL 4 (fun x4 => zdN (PX10_checkMany_76  Q QX x2 x4 τ))))) l else bif Nat.beq t 92 then zdR 0 0 (zdR 1 1 (zdL 2 (fun x2 => zdL 4 (fun x4 => zdN (PX10_checkMany_92  Q QX x2 x4 τ))))) l else bif Nat.beq t 102 then zdR 0 0 (zdR 1 1 (zdL 2 (fun x2 => zdL 4 (fun x4 => zdN (PX10_checkMany_102  Q QX x2 x4 τ))))) l else bif Nat.beq t 118 then zdR 0 0 (zdR 1 1 (zdL 2 (fun x2 => zdL 4 (fun x4 => zdN (PX10_checkMany_118  Q QX x2 x4 τ))))) l else bif Nat.beq t 138 then zdR 0 0 (zdR 1 1 (zdL 2 (fun x2 => zdL 4 (fun x4 => zdN (PX10_checkMany_138  Q QX x2 x4 τ))))) l else bif Nat.beq t 154 then zdR 0 0 (zdR 1 1 (zdL 2 (fun x2 => zdL 4 (fun x4 => zdN (PX10_checkMany_154  Q QX x2 x4 τ))))) l else bif Nat.beq t 174 then zdR 0 0 (zdR 1 1 (zdL 2 (fun x2 => zdN (PX10_checkMany_174  Q QX x2 τ)))) l else bif Nat.beq t 198 then zdR 0 0 (zdR 1 1 (zdL 2 (fun x2 => zdN (PX10_checkMany_198  Q QX x2 τ)))) l else bif Nat.beq t 207 then zdR 0 0 (zdR 1 1 (zdL 2 (fun x2 => zdN (PX10_checkMany_207  Q QX x2 τ)))) l else bif Nat.beq t 223 then zdR 0 0 (zdR 1 1 (zdL 2 (fun x2 => zdN (PX10_checkMany_223  Q QX x2 τ)))) l else bif Nat.beq t 232 then zdR 0 0 (zdL 2 (fun x2 => zdN (PX10_checkMany_232  Q QX x2 τ))) l else False
set_option maxRecDepth 50000 in
theorem pX10_checkMany_0  (Q : Option Value → zS → Prop) (QX : zS → Prop)   (σ : zS) (h : PX10_checkMany_0  Q QX  σ) : zwp JX10_checkMany (zB hX10_checkMany (zKt jnX10_checkMany (JIX10_checkMany  Q QX) (LIX10_checkMany ) none 0)) Q QX kX10_checkMany 0 (lv_args 0 [.ref 0, .ref 1]) [] σ := h
set_option maxRecDepth 50000 in
theorem pX10_checkMany_37  (Q : Option Value → zS → Prop) (QX : zS → Prop) (n : Option Nat) (x2 : Int64) (σ : zS) (h : PX10_checkMany_37  Q QX x2 σ) : zwp JX10_checkMany (zB hX10_checkMany (zKt jnX10_checkMany (JIX10_checkMany  Q QX) (LIX10_checkMany ) n 37)) Q QX kX10_checkMany 37 [(0, .ref 0), (1, .ref 1), (2, .long x2)] [] σ := h
set_option maxRecDepth 50000 in
theorem pX10_checkMany_71  (Q : Option Value → zS → Prop) (QX : zS → Prop) (n : Option Nat) (x2 : Int64) (x4 : Int64) (σ : zS) (h : PX10_checkMany_71  Q QX x2 x4 σ) : zwp JX10_checkMany (zB hX10_checkMany (zKt jnX10_checkMany (JIX10_checkMany  Q QX) (LIX10_checkMany ) n 71)) Q QX kX10_checkMany 71 [(0, .ref 0), (1, .ref 1), (2, .long x2), (4, .long x4)] [] σ := h
set_option maxRecDepth 50000 in
theorem pX10_checkMany_76  (Q : Option Value → zS → Prop) (QX : zS → Prop) (n : Option Nat) (x2 : Int64) (x4 : Int64) (σ : zS) (h : PX10_checkMany_76  Q QX x2 x4 σ) : zwp JX10_checkMany (zB hX10_checkMany (zKt jnX10_checkMany (JIX10_checkMany  Q QX) (LIX10_checkMany ) n 76)) Q QX kX10_checkMany 76 [(0, .ref 0), (1, .ref 1), (2, .long x2), (4, .long x4)] [] σ := h
set_option maxRecDepth 50000 in
theorem pX10_checkMany_92  (Q : Option Value → zS → Prop) (QX : zS → Prop) (n : Option Nat) (x2 : Int64) (x4 : Int64) (σ : zS) (h : PX10_checkMany_92  Q QX x2 x4 σ) : zwp JX10_checkMany (zB hX10_checkMany (zKt jnX10_checkMany (JIX10_checkMany  Q QX) (LIX10_checkMany ) n 92)) Q QX kX10_checkMany 92 [(0, .ref 0), (1, .ref 1), (2, .long x2), (4, .long x4)] [] σ := h
set_option maxRecDepth 50000 in
theorem pX10_checkMany_102  (Q : Option Value → zS → Prop) (QX : zS → Prop) (n : Option Nat) (x2 : Int64) (x4 : Int64) (σ : zS) (h : PX10_checkMany_102  Q QX x2 x4 σ) : zwp JX10_checkMany (zB hX10_checkMany (zKt jnX10_checkMany (JIX10_checkMany  Q QX) (LIX10_checkMany ) n 102)) Q QX kX10_checkMany 102 [(0, .ref 0), (1, .ref 1), (2, .long x2), (4, .long x4)] [] σ := h
set_option maxRecDepth 50000 in
theorem pX10_checkMany_118  (Q : Option Value → zS → Prop) (QX : zS → Prop) (n : Option Nat) (x2 : Int64) (x4 : Int64) (σ : zS) (h : PX10_checkMany_118  Q QX x2 x4 σ) : zwp JX10_checkMany (zB hX10_checkMany (zKt jnX10_checkMany (JIX10_checkMany  Q QX) (LIX10_checkMany ) n 118)) Q QX kX10_checkMany 118 [(0, .ref 0), (1, .ref 1), (2, .long x2), (4, .long x4)] [] σ := h
set_option maxRecDepth 50000 in
theorem pX10_checkMany_138  (Q : Option Value → zS → Prop) (QX : zS → Prop) (n : Option Nat) (x2 : Int64) (x4 : Int64) (σ : zS) (h : PX10_checkMany_138  Q QX x2 x4 σ) : zwp JX10_checkMany (zB hX10_checkMany (zKt jnX10_checkMany (JIX10_checkMany  Q QX) (LIX10_checkMany ) n 138)) Q QX kX10_checkMany 138 [(0, .ref 0), (1, .ref 1), (2, .long x2), (4, .long x4)] [] σ := h
set_option maxRecDepth 50000 in
theorem pX10_checkMany_154  (Q : Option Value → zS → Prop) (QX : zS → Prop) (n : Option Nat) (x2 : Int64) (x4 : Int64) (σ : zS) (h : PX10_checkMany_154  Q QX x2 x4 σ) : zwp JX10_checkMany (zB hX10_checkMany (zKt jnX10_checkMany (JIX10_checkMany  Q QX) (LIX10_checkMany ) n 154)) Q QX kX10_checkMany 154 [(0, .ref 0), (1, .ref 1), (2, .long x2), (4, .long x4)] [] σ := h
set_option maxRecDepth 50000 in
theorem pX10_checkMany_174  (Q : Option Value → zS → Prop) (QX : zS → Prop) (n : Option Nat) (x2 : Int64) (σ : zS) (h : PX10_checkMany_174  Q QX x2 σ) : zwp JX10_checkMany (zB hX10_checkMany (zKt jnX10_checkMany (JIX10_checkMany  Q QX) (LIX10_checkMany ) n 174)) Q QX kX10_checkMany 174 [(0, .ref 0), (1, .ref 1), (2, .long x2)] [] σ := h
set_option maxRecDepth 50000 in
theorem pX10_checkMany_198  (Q : Option Value → zS → Prop) (QX : zS → Prop) (n : Option Nat) (x2 : Int64) (σ : zS) (h : PX10_checkMany_198  Q QX x2 σ) : zwp JX10_checkMany (zB hX10_checkMany (zKt jnX10_checkMany (JIX10_checkMany  Q QX) (LIX10_checkMany ) n 198)) Q QX kX10_checkMany 198 [(0, .ref 0), (1, .ref 1), (2, .long x2)] [] σ := h
set_option maxRecDepth 50000 in
theorem pX10_checkMany_207  (Q : Option Value → zS → Prop) (QX : zS → Prop) (n : Option Nat) (x2 : Int64) (σ : zS) (h : PX10_checkMany_207  Q QX x2 σ) : zwp JX10_checkMany (zB hX10_checkMany (zKt jnX10_checkMany (JIX10_checkMany  Q QX) (LIX10_checkMany ) n 207)) Q QX kX10_checkMany 207 [(0, .ref 0), (1, .ref 1), (2, .long x2)] [] σ := h
set_option maxRecDepth 50000 in
theorem pX10_checkMany_223  (Q : Option Value → zS → Prop) (QX : zS → Prop) (n : Option Nat) (x2 : Int64) (σ : zS) (h : PX10_checkMany_223  Q QX x2 σ) : zwp JX10_checkMany (zB hX10_checkMany (zKt jnX10_checkMany (JIX10_checkMany  Q QX) (LIX10_checkMany ) n 223)) Q QX kX10_checkMany 223 [(0, .ref 0), (1, .ref 1), (2, .long x2)] [] σ := h
set_option maxRecDepth 50000 in
theorem pX10_checkMany_232  (Q : Option Value → zS → Prop) (QX : zS → Prop) (n : Option Nat) (x2 : Int64) (σ : zS) (h : PX10_checkMany_232  Q QX x2 σ) : zwp JX10_checkMany (zB hX10_checkMany (zKt jnX10_checkMany (JIX10_checkMany  Q QX) (LIX10_checkMany ) n 232)) Q QX kX10_checkMany 232 [(0, .ref 0), (2, .long x2)] [] σ := h
set_option maxRecDepth 50000 in
theorem rX10_checkMany {Q : Option Value → zS → Prop} {QX : zS → Prop}  {σ : zS}   (h0 : PX10_checkMany_0  Q QX  σ) : zCT zZM zmX10_checkMany [.ref 0, .ref 1] σ Q QX := by
  refine zCT_of zZM_ok pnX10 (Nat.le_of_ble_eq_true rfl) kX10_checkMany ksX10_checkMany JX10_checkMany 233 (fun t ht => ?_) hX10_checkMany jnX10_checkMany (JIX10_checkMany  Q QX) (LIX10_checkMany ) (fun n t ln σ' ht hj hI => ?_) (fun m t ln σ' ht hj hI => ?_) (pX10_checkMany_0  Q QX  σ h0)
  · refine zor ht (fun ht => ?_) (fun ht => ?_)
    · skip
      refine zor ht (fun ht => ?_) (fun ht => ?_)
      · skip
        refine zor ht (fun ht => ?_) (fun ht => ?_)
        · skip
          refine zor ht (fun ht => ?_) (fun ht => ?_)
          · skip
            refine zor ht (fun ht => ?_) (fun ht => ?_)
            · skip
              refine zor ht (fun ht => ?_) (fun ht => ?_)
              · skip
                refine zor ht (fun ht => ?_) (fun ht => ?_)
                · skip
                  refine zor ht (fun ht => ?_) (fun ht => ?_)
                  · skip
                    refine zor ht (fun ht => ?_) (fun ht => ?_)
                    · skip
                      refine zor ht (fun ht => ?_) (fun ht => ?_)
                      · skip
                        refine zor ht (fun ht => ?_) (fun ht => ?_)
                        · skip
                          refine zor ht (fun ht => ?_) (fun ht => ?_)
                          · skip
                            have et := Nat.eq_of_beq_eq_true ht; subst et
                            exact Nat.le_of_ble_eq_true rfl
                          · skip
                            have et := Nat.eq_of_beq_eq_true ht; subst et
                            exact Nat.le_of_ble_eq_true rfl
                        · skip
                          have et := Nat.eq_of_beq_eq_true ht; subst et
                          exact Nat.le_of_ble_eq_true rfl
                      · skip
                        have et := Nat.eq_of_beq_eq_true ht; subst et
                        exact Nat.le_of_ble_eq_true rfl
                    · skip
                      have et := Nat.eq_of_beq_eq_true ht; subst et
                      exact Nat.le_of_ble_eq_true rfl
                  · skip
                    have et := Nat.eq_of_beq_eq_true ht; subst et
                    exact Nat.le_of_ble_eq_true rfl
                · skip
                  have et := Nat.eq_of_beq_eq_true ht; subst et
                  exact Nat.le_of_ble_eq_true rfl
              · skip
                have et := Nat.eq_of_beq_eq_true ht; subst et
                exact Nat.le_of_ble_eq_true rfl
            · skip
              have et := Nat.eq_of_beq_eq_true ht; subst et
              exact Nat.le_of_ble_eq_true rfl
          · skip
            have et := Nat.eq_of_beq_eq_true ht; subst et
            exact Nat.le_of_ble_eq_true rfl
        · skip
          have et := Nat.eq_of_beq_eq_true ht; subst et
          exact Nat.le_of_ble_eq_true rfl
      · skip
        have et := Nat.eq_of_beq_eq_true ht; subst et
        exact Nat.le_of_ble_eq_true rfl
    · skip
      have et := Nat.eq_of_beq_eq_true ht; subst et
      exact Nat.le_of_ble_eq_true rfl
  · refine zor ht (fun ht => ?_) (fun ht => ?_)
    · skip
      refine zor ht (fun ht => ?_) (fun ht => ?_)
      · skip
        refine zor ht (fun ht => ?_) (fun ht => ?_)
        · skip
          refine zor ht (fun ht => ?_) (fun ht => ?_)
          · skip
            refine zor ht (fun ht => ?_) (fun ht => ?_)
            · skip
              refine zor ht (fun ht => ?_) (fun ht => ?_)
              · skip
                refine zor ht (fun ht => ?_) (fun ht => ?_)
                · skip
                  refine zor ht (fun ht => ?_) (fun ht => ?_)
                  · skip
                    refine zor ht (fun ht => ?_) (fun ht => ?_)
                    · skip
                      refine zor ht (fun ht => ?_) (fun ht => ?_)
                      · skip
                        refine zor ht (fun ht => ?_) (fun ht => ?_)
                        · skip
                          refine zor ht (fun ht => ?_) (fun ht => ?_)
                          · skip
                            have et := Nat.eq_of_beq_eq_true ht; subst et
                            have hI : JIX10_checkMany  Q QX 37 n ln σ' := hI
                            obtain ⟨l0, e0, hI⟩ := zdR_e (i := 0) (q := 0) hI; subst e0
                            obtain ⟨l1, e1, hI⟩ := zdR_e (i := 1) (q := 1) hI; subst e1
                            obtain ⟨x2, l2, e2, hI⟩ := zdL_e (i := 2) hI; subst e2
                            obtain ⟨e, hI⟩ := zdN_e hI; subst e
                            exact pX10_checkMany_37  Q QX n x2 σ' hI
                          · skip
                            have et := Nat.eq_of_beq_eq_true ht; subst et
                            have hI : JIX10_checkMany  Q QX 71 n ln σ' := hI
                            obtain ⟨l0, e0, hI⟩ := zdR_e (i := 0) (q := 0) hI; subst e0
                            obtain ⟨l1, e1, hI⟩ := zdR_e (i := 1) (q := 1) hI; subst e1
                            obtain ⟨x2, l2, e2, hI⟩ := zdL_e (i := 2) hI; subst e2
                            obtain ⟨x4, l4, e4, hI⟩ := zdL_e (i := 4) hI; subst e4
                            obtain ⟨e, hI⟩ := zdN_e hI; subst e
                            exact pX10_checkMany_71  Q QX n x2 x4 σ' hI
                        · skip
                          have et := Nat.eq_of_beq_eq_true ht; subst et
                          have hI : JIX10_checkMany  Q QX 76 n ln σ' := hI
                          obtain ⟨l0, e0, hI⟩ := zdR_e (i := 0) (q := 0) hI; subst e0
                          obtain ⟨l1, e1, hI⟩ := zdR_e (i := 1) (q := 1) hI; subst e1
                          obtain ⟨x2, l2, e2, hI⟩ := zdL_e (i := 2) hI; subst e2
                          obtain ⟨x4, l4, e4, hI⟩ := zdL_e (i := 4) hI; subst e4
                          obtain ⟨e, hI⟩ := zdN_e hI; subst e
                          exact pX10_checkMany_76  Q QX n x2 x4 σ' hI
                      · skip
                        have et := Nat.eq_of_beq_eq_true ht; subst et
                        have hI : JIX10_checkMany  Q QX 92 n ln σ' := hI
                        obtain ⟨l0, e0, hI⟩ := zdR_e (i := 0) (q := 0) hI; subst e0
                        obtain ⟨l1, e1, hI⟩ := zdR_e (i := 1) (q := 1) hI; subst e1
                        obtain ⟨x2, l2, e2, hI⟩ := zdL_e (i := 2) hI; subst e2
                        obtain ⟨x4, l4, e4, hI⟩ := zdL_e (i := 4) hI; subst e4
                        obtain ⟨e, hI⟩ := zdN_e hI; subst e
                        exact pX10_checkMany_92  Q QX n x2 x4 σ' hI
                    · skip
                      have et := Nat.eq_of_beq_eq_true ht; subst et
                      have hI : JIX10_checkMany  Q QX 102 n ln σ' := hI
                      obtain ⟨l0, e0, hI⟩ := zdR_e (i := 0) (q := 0) hI; subst e0
                      obtain ⟨l1, e1, hI⟩ := zdR_e (i := 1) (q := 1) hI; subst e1
                      obtain ⟨x2, l2, e2, hI⟩ := zdL_e (i := 2) hI; subst e2
                      obtain ⟨x4, l4, e4, hI⟩ := zdL_e (i := 4) hI; subst e4
                      obtain ⟨e, hI⟩ := zdN_e hI; subst e
                      exact pX10_checkMany_102  Q QX n x2 x4 σ' hI
                  · skip
                    have et := Nat.eq_of_beq_eq_true ht; subst et
                    have hI : JIX10_checkMany  Q QX 118 n ln σ' := hI
                    obtain ⟨l0, e0, hI⟩ := zdR_e (i := 0) (q := 0) hI; subst e0
                    obtain ⟨l1, e1, hI⟩ := zdR_e (i := 1) (q := 1) hI; subst e1
                    obtain ⟨x2, l2, e2, hI⟩ := zdL_e (i := 2) hI; subst e2
                    obtain ⟨x4, l4, e4, hI⟩ := zdL_e (i := 4) hI; subst e4
                    obtain ⟨e, hI⟩ := zdN_e hI; subst e
                    exact pX10_checkMany_118  Q QX n x2 x4 σ' hI
                · skip
                  have et := Nat.eq_of_beq_eq_true ht; subst et
                  have hI : JIX10_checkMany  Q QX 138 n ln σ' := hI
                  obtain ⟨l0, e0, hI⟩ := zdR_e (i := 0) (q := 0) hI; subst e0
                  obtain ⟨l1, e1, hI⟩ := zdR_e (i := 1) (q := 1) hI; subst e1
                  obtain ⟨x2, l2, e2, hI⟩ := zdL_e (i := 2) hI; subst e2
                  obtain ⟨x4, l4, e4, hI⟩ := zdL_e (i := 4) hI; subst e4
                  obtain ⟨e, hI⟩ := zdN_e hI; subst e
                  exact pX10_checkMany_138  Q QX n x2 x4 σ' hI
              · skip
                have et := Nat.eq_of_beq_eq_true ht; subst et
                have hI : JIX10_checkMany  Q QX 154 n ln σ' := hI
                obtain ⟨l0, e0, hI⟩ := zdR_e (i := 0) (q := 0) hI; subst e0
                obtain ⟨l1, e1, hI⟩ := zdR_e (i := 1) (q := 1) hI; subst e1
                obtain ⟨x2, l2, e2, hI⟩ := zdL_e (i := 2) hI; subst e2
                obtain ⟨x4, l4, e4, hI⟩ := zdL_e (i := 4) hI; subst e4
                obtain ⟨e, hI⟩ := zdN_e hI; subst e
                exact pX10_checkMany_154  Q QX n x2 x4 σ' hI
            · skip
              have et := Nat.eq_of_beq_eq_true ht; subst et
              have hI : JIX10_checkMany  Q QX 174 n ln σ' := hI
              obtain ⟨l0, e0, hI⟩ := zdR_e (i := 0) (q := 0) hI; subst e0
              obtain ⟨l1, e1, hI⟩ := zdR_e (i := 1) (q := 1) hI; subst e1
              obtain ⟨x2, l2, e2, hI⟩ := zdL_e (i := 2) hI; subst e2
              obtain ⟨e, hI⟩ := zdN_e hI; subst e
              exact pX10_checkMany_174  Q QX n x2 σ' hI
          · skip
            have et := Nat.eq_of_beq_eq_true ht; subst et
            have hI : JIX10_checkMany  Q QX 198 n ln σ' := hI
            obtain ⟨l0, e0, hI⟩ := zdR_e (i := 0) (q := 0) hI; subst e0
            obtain ⟨l1, e1, hI⟩ := zdR_e (i := 1) (q := 1) hI; subst e1
            obtain ⟨x2, l2, e2, hI⟩ := zdL_e (i := 2) hI; subst e2
            obtain ⟨e, hI⟩ := zdN_e hI; subst e
            exact pX10_checkMany_198  Q QX n x2 σ' hI
        · skip
          have et := Nat.eq_of_beq_eq_true ht; subst et
          have hI : JIX10_checkMany  Q QX 207 n ln σ' := hI
          obtain ⟨l0, e0, hI⟩ := zdR_e (i := 0) (q := 0) hI; subst e0
          obtain ⟨l1, e1, hI⟩ := zdR_e (i := 1) (q := 1) hI; subst e1
          obtain ⟨x2, l2, e2, hI⟩ := zdL_e (i := 2) hI; subst e2
          obtain ⟨e, hI⟩ := zdN_e hI; subst e
          exact pX10_checkMany_207  Q QX n x2 σ' hI
      · skip
        have et := Nat.eq_of_beq_eq_true ht; subst et
        have hI : JIX10_checkMany  Q QX 223 n ln σ' := hI
        obtain ⟨l0, e0, hI⟩ := zdR_e (i := 0) (q := 0) hI; subst e0
        obtain ⟨l1, e1, hI⟩ := zdR_e (i := 1) (q := 1) hI; subst e1
        obtain ⟨x2, l2, e2, hI⟩ := zdL_e (i := 2) hI; subst e2
        obtain ⟨e, hI⟩ := zdN_e hI; subst e
        exact pX10_checkMany_223  Q QX n x2 σ' hI
    · skip
      have et := Nat.eq_of_beq_eq_true ht; subst et
      have hI : JIX10_checkMany  Q QX 232 n ln σ' := hI
      obtain ⟨l0, e0, hI⟩ := zdR_e (i := 0) (q := 0) hI; subst e0
      obtain ⟨x2, l2, e2, hI⟩ := zdL_e (i := 2) hI; subst e2
      obtain ⟨e, hI⟩ := zdN_e hI; subst e
      exact pX10_checkMany_232  Q QX n x2 σ' hI
  · refine zor ht (fun ht => ?_) (fun ht => ?_)
    · skip
      refine zor ht (fun ht => ?_) (fun ht => ?_)
      · skip
        refine zor ht (fun ht => ?_) (fun ht => ?_)
        · skip
          refine zor ht (fun ht => ?_) (fun ht => ?_)
          · skip
            refine zor ht (fun ht => ?_) (fun ht => ?_)
            · skip
              refine zor ht (fun ht => ?_) (fun ht => ?_)
              · skip
                refine zor ht (fun ht => ?_) (fun ht => ?_)
                · skip
                  refine zor ht (fun ht => ?_) (fun ht => ?_)
                  · skip
                    refine zor ht (fun ht => ?_) (fun ht => ?_)
                    · skip
                      refine zor ht (fun ht => ?_) (fun ht => ?_)
                      · skip
                        refine zor ht (fun ht => ?_) (fun ht => ?_)
                        · skip
                          refine zor ht (fun ht => ?_) (fun ht => ?_)
                          · skip
                            have et := Nat.eq_of_beq_eq_true ht; subst et
                            cases hj
                          · skip
                            have et := Nat.eq_of_beq_eq_true ht; subst et
                            cases hj
                        · skip
                          have et := Nat.eq_of_beq_eq_true ht; subst et
                          cases hj
                      · skip
                        have et := Nat.eq_of_beq_eq_true ht; subst et
                        cases hj
                    · skip
                      have et := Nat.eq_of_beq_eq_true ht; subst et
                      cases hj
                  · skip
                    have et := Nat.eq_of_beq_eq_true ht; subst et
                    cases hj
                · skip
                  have et := Nat.eq_of_beq_eq_true ht; subst et
                  cases hj
              · skip
                have et := Nat.eq_of_beq_eq_true ht; subst et
                cases hj
            · skip
              have et := Nat.eq_of_beq_eq_true ht; subst et
              cases hj
          · skip
            have et := Nat.eq_of_beq_eq_true ht; subst et
            cases hj
        · skip
          have et := Nat.eq_of_beq_eq_true ht; subst et
          cases hj
      · skip
        have et := Nat.eq_of_beq_eq_true ht; subst et
        cases hj
    · skip
      have et := Nat.eq_of_beq_eq_true ht; subst et
      cases hj
def JX10_isConstant : Nat → Bool := fun t => false && Nat.beq t 0
def jnX10_isConstant : Nat → Bool := fun t => false && Nat.beq t 0
def hX10_isConstant : Nat → List Nat := fun t => []
def PX10_isConstant_0  (Q : Option Value → zS → Prop) (QX : zS → Prop) (a1 : Int32) (a2 : Int32) (σ : zS) : Prop :=
  ∀ s1 : zS, s1 = zsI σ 0 12 a1 →
  zCT zZM zmX10_octet [.ref 0] s1 (zQi (fun r3 s2 =>
    ((r3 = (35 : Int32) →
      zCT zZM zmX10_u [.ref 0] s2 (zQl (fun r5 s4 =>
        vp_in (3 : Int32) 4 ∧
        ((((s4.1 55 (3 : Int32).toNatClampNeg).toInt64) ≤ r5 →
          ((0 : Int32) = 0 ∨ (0 : Int32) = 1) ∧ Q (some (.int (0 : Int32))) s4) ∧ (¬ ((s4.1 55 (3 : Int32).toNatClampNeg).toInt64) ≤ r5 →
          zCT zZM zmX10_isChanged [.ref 1, .int (r5.toInt32)] s4 (zQi (fun r7 s6 =>
            ((r7 = 0 →
              zCT zZM zmX10_typeOf [.ref 1, .int (r5.toInt32)] s6 (zQi (fun r9 s8 =>
                ((r9 = a2 →
                  ((1 : Int32) = 0 ∨ (1 : Int32) = 1) ∧ Q (some (.int (1 : Int32))) s8) ∧ (¬ r9 = a2 →
                  ((0 : Int32) = 0 ∨ (0 : Int32) = 1) ∧ Q (some (.int (0 : Int32))) s8)))) QX) ∧ (¬ r7 = 0 →
              ((0 : Int32) = 0 ∨ (0 : Int32) = 1) ∧ Q (some (.int (0 : Int32))) s6)))) QX)))) QX) ∧ (¬ r3 = (35 : Int32) →
      ((r3 = ((65 : Int32) + a2) →
        ((1 : Int32) = 0 ∨ (1 : Int32) = 1) ∧ Q (some (.int (1 : Int32))) s2) ∧ (¬ r3 = ((65 : Int32) + a2) →
        ((0 : Int32) = 0 ∨ (0 : Int32) = 1) ∧ Q (some (.int (0 : Int32))) s2)))))) QX
def LIX10_isConstant  : Nat → Nat → zLo → zS → Prop := fun t n l τ => False
def JIX10_isConstant  (Q : Option Value → zS → Prop) (QX : zS → Prop) : Nat → Option Nat → zLo → zS → Prop := fun t n l τ => False
set_option maxRecDepth 50000 in
theorem pX10_isConstant_0  (Q : Option Value → zS → Prop) (QX : zS → Prop)  (a1 : Int32) (a2 : Int32) (σ : zS) (h : PX10_isConstant_0  Q QX a1 a2 σ) : zwp JX10_isConstant (zB hX10_isConstant (zKt jnX10_isConstant (JIX10_isConstant  Q QX) (LIX10_isConstant ) none 0)) Q QX kX10_isConstant 0 (lv_args 0 [.ref 0, .ref 1, .int a1, .int a2]) [] σ := h
set_option maxRecDepth 50000 in
theorem rX10_isConstant {Q : Option Value → zS → Prop} {QX : zS → Prop} {a1 : Int32} {a2 : Int32} {σ : zS}   (h0 : PX10_isConstant_0  Q QX a1 a2 σ) : zCT zZM zmX10_isConstant [.ref 0, .ref 1, .int a1, .int a2] σ Q QX := by
  refine zCT_of zZM_ok pnX10 (Nat.le_of_ble_eq_true rfl) kX10_isConstant ksX10_isConstant JX10_isConstant 1 (fun t ht => ?_) hX10_isConstant jnX10_isConstant (JIX10_isConstant  Q QX) (LIX10_isConstant ) (fun n t ln σ' ht hj hI => ?_) (fun m t ln σ' ht hj hI => ?_) (pX10_isConstant_0  Q QX a1 a2 σ h0)
  · cases ht
  · cases ht
  · cases ht
def JX10_l : Nat → Bool := fun t => false && Nat.beq t 0
def jnX10_l : Nat → Bool := fun t => false && Nat.beq t 0
def hX10_l : Nat → List Nat := fun t => []
def PX10_l_0  (Q : Option Value → zS → Prop) (QX : zS → Prop)  (σ : zS) : Prop :=
  zCT zZM zmX10_signed [.ref 0, .int (10 : Int32), .int (0 : Int32), .int (127 : Int32)] σ (zQl (fun r2 s1 =>
    Q (some (.long r2)) s1)) QX
def LIX10_l  : Nat → Nat → zLo → zS → Prop := fun t n l τ => False
def JIX10_l  (Q : Option Value → zS → Prop) (QX : zS → Prop) : Nat → Option Nat → zLo → zS → Prop := fun t n l τ => False
set_option maxRecDepth 50000 in
theorem pX10_l_0  (Q : Option Value → zS → Prop) (QX : zS → Prop)   (σ : zS) (h : PX10_l_0  Q QX  σ) : zwp JX10_l (zB hX10_l (zKt jnX10_l (JIX10_l  Q QX) (LIX10_l ) none 0)) Q QX kX10_l 0 (lv_args 0 [.ref 0]) [] σ := h
set_option maxRecDepth 50000 in
theorem rX10_l {Q : Option Value → zS → Prop} {QX : zS → Prop}  {σ : zS}   (h0 : PX10_l_0  Q QX  σ) : zCT zZM zmX10_l [.ref 0] σ Q QX := by
  refine zCT_of zZM_ok pnX10 (Nat.le_of_ble_eq_true rfl) kX10_l ksX10_l JX10_l 1 (fun t ht => ?_) hX10_l jnX10_l (JIX10_l  Q QX) (LIX10_l ) (fun n t ln σ' ht hj hI => ?_) (fun m t ln σ' ht hj hI => ?_) (pX10_l_0  Q QX  σ h0)
  · cases ht
  · cases ht
  · cases ht
def JX10_labelRow : Nat → Bool := fun t => Nat.beq t 10
def jnX10_labelRow : Nat → Bool := fun t => false && Nat.beq t 0
def hX10_labelRow : Nat → List Nat := fun t => bif Nat.beq t 10 then [0, 1, 3, 4] else []
def PX10_labelRow_10 (K10 : Int64 → Int32 → Int64 → zS → Prop) (Q : Option Value → zS → Prop) (QX : zS → Prop) (x1 : Int64) (x3 : Int32) (x4 : Int64) (σ : zS) : Prop :=
  ((x1 < x4 →
    zCT zZM zmX10_takes [.ref 0, .int (0 : Int32)] σ (zQi (fun r2 s1 =>
      zCT zZM zmX10_takes [.ref 0, .int x3] s1 (zQi (fun r4 s3 =>
        zCT zZM zmX10_rest [.ref 0] s3 (zQv (fun s5 =>
          Q none s5)) QX)) QX)) QX) ∧ (¬ x1 < x4 →
    zCT zZM zmX10_u [.ref 0] σ (zQl (fun r7 s6 =>
      zCT zZM zmX10_label [.ref 0, .long r7] s6 (zQi (fun r9 s8 =>
        ((x3 < 0 →
          zCT zZM zmX10_need [.ref 0, .int (1 : Int32)] s8 (zQv (fun s10 =>
            K10 x1 r9 (x4 + (1 : Int64)) s10)) QX) ∧ (¬ x3 < 0 →
          ((r9 = x3 →
            zCT zZM zmX10_need [.ref 0, .int (1 : Int32)] s8 (zQv (fun s11 =>
              K10 x1 r9 (x4 + (1 : Int64)) s11)) QX) ∧ (¬ r9 = x3 →
            zCT zZM zmX10_need [.ref 0, .int (0 : Int32)] s8 (zQv (fun s12 =>
              K10 x1 r9 (x4 + (1 : Int64)) s12)) QX)))))) QX)) QX))
def PX10_labelRow_0 (K10 : Int64 → Int32 → Int64 → zS → Prop) (Q : Option Value → zS → Prop) (QX : zS → Prop)  (σ : zS) : Prop :=
  zCT zZM zmX10_u [.ref 0] σ (zQl (fun r2 s1 =>
    K10 r2 (-1 : Int32) (0 : Int64) s1)) QX
def LIX10_labelRow (I10 : Nat → Int64 → Int32 → Int64 → zS → Prop) : Nat → Nat → zLo → zS → Prop := fun t n l τ => bif Nat.beq t 10 then zdR 0 0 (zdL 1 (fun x1 => zdI 3 (fun x3 => zdL 4 (fun x4 => zdN (I10 n x1 x3 x4 τ))))) l else False
def JIX10_labelRow (I10 : Nat → Int64 → Int32 → Int64 → zS → Prop) (Q : Option Value → zS → Prop) (QX : zS → Prop) : Nat → Option Nat → zLo → zS → Prop := fun t n l τ => False
set_option maxRecDepth 50000 in
theorem pX10_labelRow_0 (I10 : Nat → Int64 → Int32 → Int64 → zS → Prop) (Q : Option Value → zS → Prop) (QX : zS → Prop)   (σ : zS) (h : PX10_labelRow_0 (fun y1 y3 y4 τ => ∃ n', zlt n' none ∧ I10 n' y1 y3 y4 τ) Q QX  σ) : zwp JX10_labelRow (zB hX10_labelRow (zKt jnX10_labelRow (JIX10_labelRow I10 Q QX) (LIX10_labelRow I10) none 0)) Q QX kX10_labelRow 0 (lv_args 0 [.ref 0]) [] σ := h
set_option maxRecDepth 50000 in
theorem pX10_labelRow_10 (I10 : Nat → Int64 → Int32 → Int64 → zS → Prop) (Q : Option Value → zS → Prop) (QX : zS → Prop) (m : Nat) (x1 : Int64) (x3 : Int32) (x4 : Int64) (σ : zS) (h : PX10_labelRow_10 (fun y1 y3 y4 τ => ∃ n', zlt n' (some m) ∧ I10 n' y1 y3 y4 τ) Q QX x1 x3 x4 σ) : zwp JX10_labelRow (zB hX10_labelRow (zKt jnX10_labelRow (JIX10_labelRow I10 Q QX) (LIX10_labelRow I10) (some m) 10)) Q QX kX10_labelRow 10 [(0, .ref 0), (1, .long x1), (3, .int x3), (4, .long x4)] [] σ := h
set_option maxRecDepth 50000 in
theorem rX10_labelRow {Q : Option Value → zS → Prop} {QX : zS → Prop}  {σ : zS} (I10 : Nat → Int64 → Int32 → Int64 → zS → Prop) (hs10 : ∀ (m : Nat) (x1 : Int64) (x3 : Int32) (x4 : Int64) (σ : zS), I10 m x1 x3 x4 σ → PX10_labelRow_10 (fun y1 y3 y4 τ => ∃ n', zlt n' (some m) ∧ I10 n' y1 y3 y4 τ) Q QX x1 x3 x4 σ) (h0 : PX10_labelRow_0 (fun y1 y3 y4 τ => ∃ n', zlt n' none ∧ I10 n' y1 y3 y4 τ) Q QX  σ) : zCT zZM zmX10_labelRow [.ref 0] σ Q QX := by
  refine zCT_of zZM_ok pnX10 (Nat.le_of_ble_eq_true rfl) kX10_labelRow ksX10_labelRow JX10_labelRow 11 (fun t ht => ?_) hX10_labelRow jnX10_labelRow (JIX10_labelRow I10 Q QX) (LIX10_labelRow I10) (fun n t ln σ' ht hj hI => ?_) (fun m t ln σ' ht hj hI => ?_) (pX10_labelRow_0 I10 Q QX  σ h0)
  · have et := Nat.eq_of_beq_eq_true ht; subst et
    exact Nat.le_of_ble_eq_true rfl
  · have et := Nat.eq_of_beq_eq_true ht; subst et
    cases hj
  · have et := Nat.eq_of_beq_eq_true ht; subst et
    have hI : LIX10_labelRow I10 10 m ln σ' := hI
    obtain ⟨l0, e0, hI⟩ := zdR_e (i := 0) (q := 0) hI; subst e0
    obtain ⟨x1, l1, e1, hI⟩ := zdL_e (i := 1) hI; subst e1
    obtain ⟨x3, l3, e3, hI⟩ := zdI_e (i := 3) hI; subst e3
    obtain ⟨x4, l4, e4, hI⟩ := zdL_e (i := 4) hI; subst e4
    obtain ⟨e, hI⟩ := zdN_e hI; subst e
    exact pX10_labelRow_10 I10 Q QX m x1 x3 x4 σ' (hs10 m x1 x3 x4 σ' hI)
def JX10_limits : Nat → Bool := fun t => false && Nat.beq t 0
def jnX10_limits : Nat → Bool := fun t => false && Nat.beq t 0
def hX10_limits : Nat → List Nat := fun t => []
def PX10_limits_0  (Q : Option Value → zS → Prop) (QX : zS → Prop)  (σ : zS) : Prop :=
  zCT zZM zmX10_octet [.ref 0] σ (zQi (fun r2 s1 =>
    ((r2 ≤ (1 : Int32) →
      zCT zZM zmX10_u [.ref 0] s1 (zQl (fun r4 s3 =>
        ∀ s5 : zS, s5 = zsL s3 0 16 r4 →
        ((r2 = (1 : Int32) →
          zCT zZM zmX10_u [.ref 0] s5 (zQl (fun r7 s6 =>
            ∀ s8 : zS, s8 = zsL s6 0 17 r7 →
            Q none s8)) QX) ∧ (¬ r2 = (1 : Int32) →
          ∀ s9 : zS, s9 = zsL s5 0 17 (-1 : Int64) →
          Q none s9)))) QX) ∧ (¬ r2 ≤ (1 : Int32) →
      zCT zZM zmX10_wrong [.ref 0, .int (1 : Int32), .int (σ.1 0 12)] s1 (zQr (fun r11 s10 =>
        o_athrow zYM 2 Q QX (fun _ _ _ _ => False) [] [.ref r11] s10)) QX)))) QX
def LIX10_limits  : Nat → Nat → zLo → zS → Prop := fun t n l τ => False
def JIX10_limits  (Q : Option Value → zS → Prop) (QX : zS → Prop) : Nat → Option Nat → zLo → zS → Prop := fun t n l τ => False
set_option maxRecDepth 50000 in
theorem pX10_limits_0  (Q : Option Value → zS → Prop) (QX : zS → Prop)   (σ : zS) (h : PX10_limits_0  Q QX  σ) : zwp JX10_limits (zB hX10_limits (zKt jnX10_limits (JIX10_limits  Q QX) (LIX10_limits ) none 0)) Q QX kX10_limits 0 (lv_args 0 [.ref 0]) [] σ := h
set_option maxRecDepth 50000 in
theorem rX10_limits {Q : Option Value → zS → Prop} {QX : zS → Prop}  {σ : zS}   (h0 : PX10_limits_0  Q QX  σ) : zCT zZM zmX10_limits [.ref 0] σ Q QX := by
  refine zCT_of zZM_ok pnX10 (Nat.le_of_ble_eq_true rfl) kX10_limits ksX10_limits JX10_limits 1 (fun t ht => ?_) hX10_limits jnX10_limits (JIX10_limits  Q QX) (LIX10_limits ) (fun n t ln σ' ht hj hI => ?_) (fun m t ln σ' ht hj hI => ?_) (pX10_limits_0  Q QX  σ h0)
  · cases ht
  · cases ht
  · cases ht
def JX10_many : Nat → Bool := fun t => Nat.beq t 26 || Nat.beq t 49 || Nat.beq t 63 || Nat.beq t 95 || Nat.beq t 101 || Nat.beq t 125 || Nat.beq t 130 || Nat.beq t 146
def jnX10_many : Nat → Bool := fun t => Nat.beq t 26 || Nat.beq t 49 || Nat.beq t 63 || Nat.beq t 95 || Nat.beq t 101 || Nat.beq t 125 || Nat.beq t 130 || Nat.beq t 146
def hX10_many : Nat → List Nat := fun t => bif Nat.beq t 26 then [0, 2] else bif Nat.beq t 49 then [0, 1, 3] else bif Nat.beq t 63 then [0, 3] else bif Nat.beq t 95 then [0, 3] else bif Nat.beq t 101 then [0, 3] else bif Nat.beq t 125 then [0, 3] else bif Nat.beq t 130 then [0, 3] else bif Nat.beq t 146 then [0] else []
def PX10_many_146  (Q : Option Value → zS → Prop) (QX : zS → Prop)  (σ : zS) : Prop :=
  zCT zZM zmX10_needOctet [.ref 0, .int (0 : Int32)] σ (zQv (fun s1 =>
    zCT zZM zmX10_needOctet [.ref 0, .int (0 : Int32)] s1 (zQv (fun s2 =>
      Q none s2)) QX)) QX
def PX10_many_130  (Q : Option Value → zS → Prop) (QX : zS → Prop) (x3 : Int64) (σ : zS) : Prop :=
  ((x3 = (10 : Int64) →
    PX10_many_146 Q QX σ) ∧ (¬ x3 = (10 : Int64) →
    ((x3 = (14 : Int64) →
      PX10_many_146 Q QX σ) ∧ (¬ x3 = (14 : Int64) →
      Q none σ))))
def PX10_many_125  (Q : Option Value → zS → Prop) (QX : zS → Prop) (x3 : Int64) (σ : zS) : Prop :=
  zCT zZM zmX10_needOctet [.ref 0, .int (0 : Int32)] σ (zQv (fun s1 =>
    PX10_many_130 Q QX x3 s1)) QX
def PX10_many_101  (Q : Option Value → zS → Prop) (QX : zS → Prop) (x3 : Int64) (σ : zS) : Prop :=
  ((x3 = (8 : Int64) →
    PX10_many_125 Q QX x3 σ) ∧ (¬ x3 = (8 : Int64) →
    ((x3 = (11 : Int64) →
      PX10_many_125 Q QX x3 σ) ∧ (¬ x3 = (11 : Int64) →
      ((x3 = (12 : Int64) →
        PX10_many_125 Q QX x3 σ) ∧ (¬ x3 = (12 : Int64) →
        PX10_many_130 Q QX x3 σ))))))
def PX10_many_95  (Q : Option Value → zS → Prop) (QX : zS → Prop) (x3 : Int64) (σ : zS) : Prop :=
  zCT zZM zmX10_u [.ref 0] σ (zQl (fun r2 s1 =>
    PX10_many_101 Q QX x3 s1)) QX
def PX10_many_63  (Q : Option Value → zS → Prop) (QX : zS → Prop) (x3 : Int64) (σ : zS) : Prop :=
  ((x3 = (8 : Int64) →
    PX10_many_95 Q QX x3 σ) ∧ (¬ x3 = (8 : Int64) →
    ((x3 = (9 : Int64) →
      PX10_many_95 Q QX x3 σ) ∧ (¬ x3 = (9 : Int64) →
      ((x3 = (12 : Int64) →
        PX10_many_95 Q QX x3 σ) ∧ (¬ x3 = (12 : Int64) →
        ((x3 = (13 : Int64) →
          PX10_many_95 Q QX x3 σ) ∧ (¬ x3 = (13 : Int64) →
          PX10_many_101 Q QX x3 σ))))))))
def PX10_many_49  (Q : Option Value → zS → Prop) (QX : zS → Prop) (x1 : Int32) (x3 : Int64) (σ : zS) : Prop :=
  (((σ.1 0 18) = 0 →
    zCT zZM zmX10_wrong [.ref 0, .int (1 : Int32), .int x1] σ (zQr (fun r2 s1 =>
      o_athrow zYM 2 Q QX (fun _ _ _ _ => False) [] [.ref r2] s1)) QX) ∧ (¬ (σ.1 0 18) = 0 →
    PX10_many_63 Q QX x3 σ))
def PX10_many_26  (Q : Option Value → zS → Prop) (QX : zS → Prop) (x2 : Int32) (σ : zS) : Prop :=
  zCT zZM zmX10_wrong [.ref 0, .int (1 : Int32), .int x2] σ (zQr (fun r2 s1 =>
    o_athrow zYM 2 Q QX (fun _ _ _ _ => False) [] [.ref r2] s1)) QX
def PX10_many_0  (Q : Option Value → zS → Prop) (QX : zS → Prop) (a1 : Int32) (σ : zS) : Prop :=
  zCT zZM zmX10_u [.ref 0] σ (zQl (fun r2 s1 =>
    ((r2 < (8 : Int64) →
      PX10_many_26 Q QX (σ.1 0 12) s1) ∧ (¬ r2 < (8 : Int64) →
      ((r2 ≤ (14 : Int64) →
        ((r2 = (8 : Int64) →
          PX10_many_49 Q QX a1 r2 s1) ∧ (¬ r2 = (8 : Int64) →
          ((r2 = (9 : Int64) →
            PX10_many_49 Q QX a1 r2 s1) ∧ (¬ r2 = (9 : Int64) →
            PX10_many_63 Q QX r2 s1))))) ∧ (¬ r2 ≤ (14 : Int64) →
        PX10_many_26 Q QX (σ.1 0 12) s1)))))) QX
def LIX10_many  : Nat → Nat → zLo → zS → Prop := fun t n l τ => False
def JIX10_many  (Q : Option Value → zS → Prop) (QX : zS → Prop) : Nat → Option Nat → zLo → zS → Prop := fun t n l τ => bif Nat.beq t 26 then zdR 0 0 (zdI 2 (fun x2 => zdN (PX10_many_26  Q QX x2 τ))) l else bif Nat.beq t 49 then zdR 0 0 (zdI 1 (fun x1 => zdL 3 (fun x3 => zdN (PX10_many_49  Q QX x1 x3 τ)))) l else bif Nat.beq t 63 then zdR 0 0 (zdL 3 (fun x3 => zdN (PX10_many_63  Q QX x3 τ))) l else bif Nat.beq t 95 then zdR 0 0 (zdL 3 (fun x3 => zdN (PX10_many_95  Q QX x3 τ))) l else bif Nat.beq t 101 then zdR 0 0 (zdL 3 (fun x3 => zdN (PX10_many_101  Q QX x3 τ))) l else bif Nat.beq t 125 then zdR 0 0 (zdL 3 (fun x3 => zdN (PX10_many_125  Q QX x3 τ))) l else bif Nat.beq t 130 then zdR 0 0 (zdL 3 (fun x3 => zdN (PX10_many_130  Q QX x3 τ))) l else bif Nat.beq t 146 then zdR 0 0 (zdN (PX10_many_146  Q QX  τ)) l else False
set_option maxRecDepth 50000 in
theorem pX10_many_0  (Q : Option Value → zS → Prop) (QX : zS → Prop)  (a1 : Int32) (σ : zS) (h : PX10_many_0  Q QX a1 σ) : zwp JX10_many (zB hX10_many (zKt jnX10_many (JIX10_many  Q QX) (LIX10_many ) none 0)) Q QX kX10_many 0 (lv_args 0 [.ref 0, .int a1]) [] σ := h
set_option maxRecDepth 50000 in
theorem pX10_many_26  (Q : Option Value → zS → Prop) (QX : zS → Prop) (n : Option Nat) (x2 : Int32) (σ : zS) (h : PX10_many_26  Q QX x2 σ) : zwp JX10_many (zB hX10_many (zKt jnX10_many (JIX10_many  Q QX) (LIX10_many ) n 26)) Q QX kX10_many 26 [(0, .ref 0), (2, .int x2)] [] σ := h
set_option maxRecDepth 50000 in
theorem pX10_many_49  (Q : Option Value → zS → Prop) (QX : zS → Prop) (n : Option Nat) (x1 : Int32) (x3 : Int64) (σ : zS) (h : PX10_many_49  Q QX x1 x3 σ) : zwp JX10_many (zB hX10_many (zKt jnX10_many (JIX10_many  Q QX) (LIX10_many ) n 49)) Q QX kX10_many 49 [(0, .ref 0), (1, .int x1), (3, .long x3)] [] σ := h
set_option maxRecDepth 50000 in
theorem pX10_many_63  (Q : Option Value → zS → Prop) (QX : zS → Prop) (n : Option Nat) (x3 : Int64) (σ : zS) (h : PX10_many_63  Q QX x3 σ) : zwp JX10_many (zB hX10_many (zKt jnX10_many (JIX10_many  Q QX) (LIX10_many ) n 63)) Q QX kX10_many 63 [(0, .ref 0), (3, .long x3)] [] σ := h
set_option maxRecDepth 50000 in
theorem pX10_many_95  (Q : Option Value → zS → Prop) (QX : zS → Prop) (n : Option Nat) (x3 : Int64) (σ : zS) (h : PX10_many_95  Q QX x3 σ) : zwp JX10_many (zB hX10_many (zKt jnX10_many (JIX10_many  Q QX) (LIX10_many ) n 95)) Q QX kX10_many 95 [(0, .ref 0), (3, .long x3)] [] σ := h
set_option maxRecDepth 50000 in
theorem pX10_many_101  (Q : Option Value → zS → Prop) (QX : zS → Prop) (n : Option Nat) (x3 : Int64) (σ : zS) (h : PX10_many_101  Q QX x3 σ) : zwp JX10_many (zB hX10_many (zKt jnX10_many (JIX10_many  Q QX) (LIX10_many ) n 101)) Q QX kX10_many 101 [(0, .ref 0), (3, .long x3)] [] σ := h
set_option maxRecDepth 50000 in
theorem pX10_many_125  (Q : Option Value → zS → Prop) (QX : zS → Prop) (n : Option Nat) (x3 : Int64) (σ : zS) (h : PX10_many_125  Q QX x3 σ) : zwp JX10_many (zB hX10_many (zKt jnX10_many (JIX10_many  Q QX) (LIX10_many ) n 125)) Q QX kX10_many 125 [(0, .ref 0), (3, .long x3)] [] σ := h
set_option maxRecDepth 50000 in
theorem pX10_many_130  (Q : Option Value → zS → Prop) (QX : zS → Prop) (n : Option Nat) (x3 : Int64) (σ : zS) (h : PX10_many_130  Q QX x3 σ) : zwp JX10_many (zB hX10_many (zKt jnX10_many (JIX10_many  Q QX) (LIX10_many ) n 130)) Q QX kX10_many 130 [(0, .ref 0), (3, .long x3)] [] σ := h
set_option maxRecDepth 50000 in
theorem pX10_many_146  (Q : Option Value → zS → Prop) (QX : zS → Prop) (n : Option Nat)  (σ : zS) (h : PX10_many_146  Q QX  σ) : zwp JX10_many (zB hX10_many (zKt jnX10_many (JIX10_many  Q QX) (LIX10_many ) n 146)) Q QX kX10_many 146 [(0, .ref 0)] [] σ := h
set_option maxRecDepth 50000 in
theorem rX10_many {Q : Option Value → zS → Prop} {QX : zS → Prop} {a1 : Int32} {σ : zS}   (h0 : PX10_many_0  Q QX a1 σ) : zCT zZM zmX10_many [.ref 0, .int a1] σ Q QX := by
  refine zCT_of zZM_ok pnX10 (Nat.le_of_ble_eq_true rfl) kX10_many ksX10_many JX10_many 147 (fun t ht => ?_) hX10_many jnX10_many (JIX10_many  Q QX) (LIX10_many ) (fun n t ln σ' ht hj hI => ?_) (fun m t ln σ' ht hj hI => ?_) (pX10_many_0  Q QX a1 σ h0)
  · refine zor ht (fun ht => ?_) (fun ht => ?_)
    · skip
      refine zor ht (fun ht => ?_) (fun ht => ?_)
      · skip
        refine zor ht (fun ht => ?_) (fun ht => ?_)
        · skip
          refine zor ht (fun ht => ?_) (fun ht => ?_)
          · skip
            refine zor ht (fun ht => ?_) (fun ht => ?_)
            · skip
              refine zor ht (fun ht => ?_) (fun ht => ?_)
              · skip
                refine zor ht (fun ht => ?_) (fun ht => ?_)
                · skip
                  have et := Nat.eq_of_beq_eq_true ht; subst et
                  exact Nat.le_of_ble_eq_true rfl
                · skip
                  have et := Nat.eq_of_beq_eq_true ht; subst et
                  exact Nat.le_of_ble_eq_true rfl
              · skip
                have et := Nat.eq_of_beq_eq_true ht; subst et
                exact Nat.le_of_ble_eq_true rfl
            · skip
              have et := Nat.eq_of_beq_eq_true ht; subst et
              exact Nat.le_of_ble_eq_true rfl
          · skip
            have et := Nat.eq_of_beq_eq_true ht; subst et
            exact Nat.le_of_ble_eq_true rfl
        · skip
          have et := Nat.eq_of_beq_eq_true ht; subst et
          exact Nat.le_of_ble_eq_true rfl
      · skip
        have et := Nat.eq_of_beq_eq_true ht; subst et
        exact Nat.le_of_ble_eq_true rfl
    · skip
      have et := Nat.eq_of_beq_eq_true ht; subst et
      exact Nat.le_of_ble_eq_true rfl
  · refine zor ht (fun ht => ?_) (fun ht => ?_)
    · skip
      refine zor ht (fun ht => ?_) (fun ht => ?_)
      · skip
        refine zor ht (fun ht => ?_) (fun ht => ?_)
        · skip
          refine zor ht (fun ht => ?_) (fun ht => ?_)
          · skip
            refine zor ht (fun ht => ?_) (fun ht => ?_)
            · skip
              refine zor ht (fun ht => ?_) (fun ht => ?_)
              · skip
                refine zor ht (fun ht => ?_) (fun ht => ?_)
                · skip
                  have et := Nat.eq_of_beq_eq_true ht; subst et
                  have hI : JIX10_many  Q QX 26 n ln σ' := hI
                  obtain ⟨l0, e0, hI⟩ := zdR_e (i := 0) (q := 0) hI; subst e0
                  obtain ⟨x2, l2, e2, hI⟩ := zdI_e (i := 2) hI; subst e2
                  obtain ⟨e, hI⟩ := zdN_e hI; subst e
                  exact pX10_many_26  Q QX n x2 σ' hI
                · skip
                  have et := Nat.eq_of_beq_eq_true ht; subst et
                  have hI : JIX10_many  Q QX 49 n ln σ' := hI
                  obtain ⟨l0, e0, hI⟩ := zdR_e (i := 0) (q := 0) hI; subst e0
                  obtain ⟨x1, l1, e1, hI⟩ := zdI_e (i := 1) hI; subst e1
                  obtain ⟨x3, l3, e3, hI⟩ := zdL_e (i := 3) hI; subst e3
                  obtain ⟨e, hI⟩ := zdN_e hI; subst e
                  exact pX10_many_49  Q QX n x1 x3 σ' hI
              · skip
                have et := Nat.eq_of_beq_eq_true ht; subst et
                have hI : JIX10_many  Q QX 63 n ln σ' := hI
                obtain ⟨l0, e0, hI⟩ := zdR_e (i := 0) (q := 0) hI; subst e0
                obtain ⟨x3, l3, e3, hI⟩ := zdL_e (i := 3) hI; subst e3
                obtain ⟨e, hI⟩ := zdN_e hI; subst e
                exact pX10_many_63  Q QX n x3 σ' hI
            · skip
              have et := Nat.eq_of_beq_eq_true ht; subst et
              have hI : JIX10_many  Q QX 95 n ln σ' := hI
              obtain ⟨l0, e0, hI⟩ := zdR_e (i := 0) (q := 0) hI; subst e0
              obtain ⟨x3, l3, e3, hI⟩ := zdL_e (i := 3) hI; subst e3
              obtain ⟨e, hI⟩ := zdN_e hI; subst e
              exact pX10_many_95  Q QX n x3 σ' hI
          · skip
            have et := Nat.eq_of_beq_eq_true ht; subst et
            have hI : JIX10_many  Q QX 101 n ln σ' := hI
            obtain ⟨l0, e0, hI⟩ := zdR_e (i := 0) (q := 0) hI; subst e0
            obtain ⟨x3, l3, e3, hI⟩ := zdL_e (i := 3) hI; subst e3
            obtain ⟨e, hI⟩ := zdN_e hI; subst e
            exact pX10_many_101  Q QX n x3 σ' hI
        · skip
          have et := Nat.eq_of_beq_eq_true ht; subst et
          have hI : JIX10_many  Q QX 125 n ln σ' := hI
          obtain ⟨l0, e0, hI⟩ := zdR_e (i := 0) (q := 0) hI; subst e0
          obtain ⟨x3, l3, e3, hI⟩ := zdL_e (i := 3) hI; subst e3
          obtain ⟨e, hI⟩ := zdN_e hI; subst e
          exact pX10_many_125  Q QX n x3 σ' hI
      · skip
        have et := Nat.eq_of_beq_eq_true ht; subst et
        have hI : JIX10_many  Q QX 130 n ln σ' := hI
        obtain ⟨l0, e0, hI⟩ := zdR_e (i := 0) (q := 0) hI; subst e0
        obtain ⟨x3, l3, e3, hI⟩ := zdL_e (i := 3) hI; subst e3
        obtain ⟨e, hI⟩ := zdN_e hI; subst e
        exact pX10_many_130  Q QX n x3 σ' hI
    · skip
      have et := Nat.eq_of_beq_eq_true ht; subst et
      have hI : JIX10_many  Q QX 146 n ln σ' := hI
      obtain ⟨l0, e0, hI⟩ := zdR_e (i := 0) (q := 0) hI; subst e0
      obtain ⟨e, hI⟩ := zdN_e hI; subst e
      exact pX10_many_146  Q QX n  σ' hI
  · refine zor ht (fun ht => ?_) (fun ht => ?_)
    · skip
      refine zor ht (fun ht => ?_) (fun ht => ?_)
      · skip
        refine zor ht (fun ht => ?_) (fun ht => ?_)
        · skip
          refine zor ht (fun ht => ?_) (fun ht => ?_)
          · skip
            refine zor ht (fun ht => ?_) (fun ht => ?_)
            · skip
              refine zor ht (fun ht => ?_) (fun ht => ?_)
              · skip
                refine zor ht (fun ht => ?_) (fun ht => ?_)
                · skip
                  have et := Nat.eq_of_beq_eq_true ht; subst et
                  cases hj
                · skip
                  have et := Nat.eq_of_beq_eq_true ht; subst et
                  cases hj
              · skip
                have et := Nat.eq_of_beq_eq_true ht; subst et
                cases hj
            · skip
              have et := Nat.eq_of_beq_eq_true ht; subst et
              cases hj
          · skip
            have et := Nat.eq_of_beq_eq_true ht; subst et
            cases hj
        · skip
          have et := Nat.eq_of_beq_eq_true ht; subst et
          cases hj
      · skip
        have et := Nat.eq_of_beq_eq_true ht; subst et
        cases hj
    · skip
      have et := Nat.eq_of_beq_eq_true ht; subst et
      cases hj
def JX10_nameItem : Nat → Bool := fun t => Nat.beq t 63
def jnX10_nameItem : Nat → Bool := fun t => false && Nat.beq t 0
def hX10_nameItem : Nat → List Nat := fun t => bif Nat.beq t 63 then [0, 1, 2, 3, 5] else []
def PX10_nameItem_63 (K63 : Int32 → Int32 → Int64 → Int32 → zS → Prop) (Q : Option Value → zS → Prop) (QX : zS → Prop) (x1 : Int32) (x2 : Int32) (x3 : Int64) (x5 : Int32) (σ : zS) : Prop :=
  ((x3 ≤ (x5.toInt64) →
    ∀ s1 : zS, s1 = zsI σ 0 12 ((σ.1 0 12) + (σ.1 0 15)) →
    ((x1 = 0 →
      Q none s1) ∧ (¬ x1 = 0 →
      ((x3 ≤ (40 : Int64) →
        Q none s1) ∧ (¬ x3 ≤ (40 : Int64) →
        zCT zZM zmX10_wrong [.ref 0, .int (4 : Int32), .int x2] s1 (zQr (fun r3 s2 =>
          o_athrow zYM 2 Q QX (fun _ _ _ _ => False) [] [.ref r3] s2)) QX))))) ∧ (¬ x3 ≤ (x5.toInt64) →
    vp_in ((σ.1 0 12) + x5) 32000 ∧
    (((σ.1 4 ((σ.1 0 12) + x5).toNatClampNeg) < (33 : Int32) →
      zCT zZM zmX10_wrong [.ref 0, .int (1 : Int32), .int x2] σ (zQr (fun r5 s4 =>
        o_athrow zYM 2 Q QX (fun _ _ _ _ => False) [] [.ref r5] s4)) QX) ∧ (¬ (σ.1 4 ((σ.1 0 12) + x5).toNatClampNeg) < (33 : Int32) →
      vp_in ((σ.1 0 12) + x5) 32000 ∧
      (((σ.1 4 ((σ.1 0 12) + x5).toNatClampNeg) ≤ (126 : Int32) →
        K63 x1 x2 x3 (x5 + 1) σ) ∧ (¬ (σ.1 4 ((σ.1 0 12) + x5).toNatClampNeg) ≤ (126 : Int32) →
        zCT zZM zmX10_wrong [.ref 0, .int (1 : Int32), .int x2] σ (zQr (fun r7 s6 =>
          o_athrow zYM 2 Q QX (fun _ _ _ _ => False) [] [.ref r7] s6)) QX))))))
def PX10_nameItem_0 (K63 : Int32 → Int32 → Int64 → Int32 → zS → Prop) (Q : Option Value → zS → Prop) (QX : zS → Prop) (a1 : Int32) (σ : zS) : Prop :=
  zCT zZM zmX10_u [.ref 0] σ (zQl (fun r2 s1 =>
    ((r2 < (1 : Int64) →
      zCT zZM zmX10_wrong [.ref 0, .int (1 : Int32), .int (σ.1 0 12)] s1 (zQr (fun r4 s3 =>
        o_athrow zYM 2 Q QX (fun _ _ _ _ => False) [] [.ref r4] s3)) QX) ∧ (¬ r2 < (1 : Int64) →
      (((100 : Int64) < r2 →
        zCT zZM zmX10_wrong [.ref 0, .int (1 : Int32), .int (σ.1 0 12)] s1 (zQr (fun r6 s5 =>
          o_athrow zYM 2 Q QX (fun _ _ _ _ => False) [] [.ref r6] s5)) QX) ∧ (¬ (100 : Int64) < r2 →
        ((r2 ≤ (((s1.1 0 13) - (s1.1 0 12)).toInt64) →
          ∀ s7 : zS, s7 = zsI s1 0 14 (s1.1 0 12) →
          ∀ s8 : zS, s8 = zsI s7 0 15 (r2.toInt32) →
          K63 a1 (σ.1 0 12) r2 (0 : Int32) s8) ∧ (¬ r2 ≤ (((s1.1 0 13) - (s1.1 0 12)).toInt64) →
          zCT zZM zmX10_wrong [.ref 0, .int (1 : Int32), .int (σ.1 0 12)] s1 (zQr (fun r10 s9 =>
            o_athrow zYM 2 Q QX (fun _ _ _ _ => False) [] [.ref r10] s9)) QX)))))))) QX
def LIX10_nameItem (I63 : Nat → Int32 → Int32 → Int64 → Int32 → zS → Prop) : Nat → Nat → zLo → zS → Prop := fun t n l τ => bif Nat.beq t 63 then zdR 0 0 (zdI 1 (fun x1 => zdI 2 (fun x2 => zdL 3 (fun x3 => zdI 5 (fun x5 => zdN (I63 n x1 x2 x3 x5 τ)))))) l else False
def JIX10_nameItem (I63 : Nat → Int32 → Int32 → Int64 → Int32 → zS → Prop) (Q : Option Value → zS → Prop) (QX : zS → Prop) : Nat → Option Nat → zLo → zS → Prop := fun t n l τ => False
set_option maxRecDepth 50000 in
theorem pX10_nameItem_0 (I63 : Nat → Int32 → Int32 → Int64 → Int32 → zS → Prop) (Q : Option Value → zS → Prop) (QX : zS → Prop)  (a1 : Int32) (σ : zS) (h : PX10_nameItem_0 (fun y1 y2 y3 y5 τ => ∃ n', zlt n' none ∧ I63 n' y1 y2 y3 y5 τ) Q QX a1 σ) : zwp JX10_nameItem (zB hX10_nameItem (zKt jnX10_nameItem (JIX10_nameItem I63 Q QX) (LIX10_nameItem I63) none 0)) Q QX kX10_nameItem 0 (lv_args 0 [.ref 0, .int a1]) [] σ := h
set_option maxRecDepth 50000 in
theorem pX10_nameItem_63 (I63 : Nat → Int32 → Int32 → Int64 → Int32 → zS → Prop) (Q : Option Value → zS → Prop) (QX : zS → Prop) (m : Nat) (x1 : Int32) (x2 : Int32) (x3 : Int64) (x5 : Int32) (σ : zS) (h : PX10_nameItem_63 (fun y1 y2 y3 y5 τ => ∃ n', zlt n' (some m) ∧ I63 n' y1 y2 y3 y5 τ) Q QX x1 x2 x3 x5 σ) : zwp JX10_nameItem (zB hX10_nameItem (zKt jnX10_nameItem (JIX10_nameItem I63 Q QX) (LIX10_nameItem I63) (some m) 63)) Q QX kX10_nameItem 63 [(0, .ref 0), (1, .int x1), (2, .int x2), (3, .long x3), (5, .int x5)] [] σ := h
set_option maxRecDepth 50000 in
theorem rX10_nameItem {Q : Option Value → zS → Prop} {QX : zS → Prop} {a1 : Int32} {σ : zS} (I63 : Nat → Int32 → Int32 → Int64 → Int32 → zS → Prop) (hs63 : ∀ (m : Nat) (x1 : Int32) (x2 : Int32) (x3 : Int64) (x5 : Int32) (σ : zS), I63 m x1 x2 x3 x5 σ → PX10_nameItem_63 (fun y1 y2 y3 y5 τ => ∃ n', zlt n' (some m) ∧ I63 n' y1 y2 y3 y5 τ) Q QX x1 x2 x3 x5 σ) (h0 : PX10_nameItem_0 (fun y1 y2 y3 y5 τ => ∃ n', zlt n' none ∧ I63 n' y1 y2 y3 y5 τ) Q QX a1 σ) : zCT zZM zmX10_nameItem [.ref 0, .int a1] σ Q QX := by
  refine zCT_of zZM_ok pnX10 (Nat.le_of_ble_eq_true rfl) kX10_nameItem ksX10_nameItem JX10_nameItem 64 (fun t ht => ?_) hX10_nameItem jnX10_nameItem (JIX10_nameItem I63 Q QX) (LIX10_nameItem I63) (fun n t ln σ' ht hj hI => ?_) (fun m t ln σ' ht hj hI => ?_) (pX10_nameItem_0 I63 Q QX a1 σ h0)
  · have et := Nat.eq_of_beq_eq_true ht; subst et
    exact Nat.le_of_ble_eq_true rfl
  · have et := Nat.eq_of_beq_eq_true ht; subst et
    cases hj
  · have et := Nat.eq_of_beq_eq_true ht; subst et
    have hI : LIX10_nameItem I63 63 m ln σ' := hI
    obtain ⟨l0, e0, hI⟩ := zdR_e (i := 0) (q := 0) hI; subst e0
    obtain ⟨x1, l1, e1, hI⟩ := zdI_e (i := 1) hI; subst e1
    obtain ⟨x2, l2, e2, hI⟩ := zdI_e (i := 2) hI; subst e2
    obtain ⟨x3, l3, e3, hI⟩ := zdL_e (i := 3) hI; subst e3
    obtain ⟨x5, l5, e5, hI⟩ := zdI_e (i := 5) hI; subst e5
    obtain ⟨e, hI⟩ := zdN_e hI; subst e
    exact pX10_nameItem_63 I63 Q QX m x1 x2 x3 x5 σ' (hs63 m x1 x2 x3 x5 σ' hI)
def JX10_readLocals : Nat → Bool := fun t => Nat.beq t 7 || Nat.beq t 58 || Nat.beq t 80
def jnX10_readLocals : Nat → Bool := fun t => false && Nat.beq t 0
def hX10_readLocals : Nat → List Nat := fun t => bif Nat.beq t 7 then [0, 1, 2, 3] else bif Nat.beq t 58 then [0, 3, 5] else bif Nat.beq t 80 then [0, 3, 5, 7, 9, 10] else []
def PX10_readLocals_80 (K7 : Int32 → Int32 → Int32 → zS → Prop) (K58 : Int64 → Int64 → zS → Prop) (K80 : Int64 → Int64 → Int64 → Int32 → Int64 → zS → Prop) (Q : Option Value → zS → Prop) (QX : zS → Prop) (x3 : Int64) (x5 : Int64) (x7 : Int64) (x9 : Int32) (x10 : Int64) (σ : zS) : Prop :=
  ((x7 ≤ x10 →
    K58 x3 (x5 + (1 : Int64)) σ) ∧ (¬ x7 ≤ x10 →
    vp_in (σ.1 0 30) 80 ∧ ∀ s1 : zS, s1 = zsI σ 13 (σ.1 0 30).toNatClampNeg x9 →
    ∀ s2 : zS, s2 = zsI s1 0 30 ((s1.1 0 30) + (1 : Int32)) →
    K80 x3 x5 x7 x9 (x10 + (1 : Int64)) s2))
def PX10_readLocals_58 (K7 : Int32 → Int32 → Int32 → zS → Prop) (K58 : Int64 → Int64 → zS → Prop) (K80 : Int64 → Int64 → Int64 → Int32 → Int64 → zS → Prop) (Q : Option Value → zS → Prop) (QX : zS → Prop) (x3 : Int64) (x5 : Int64) (σ : zS) : Prop :=
  ((x3 ≤ x5 →
    Q none σ) ∧ (¬ x3 ≤ x5 →
    zCT zZM zmX10_u [.ref 0] σ (zQl (fun r2 s1 =>
      zCT zZM zmX10_type [.ref 0] s1 (zQi (fun r4 s3 =>
        K80 x3 x5 r2 r4 (0 : Int64) s3)) QX)) QX))
def PX10_readLocals_7 (K7 : Int32 → Int32 → Int32 → zS → Prop) (K58 : Int64 → Int64 → zS → Prop) (K80 : Int64 → Int64 → Int64 → Int32 → Int64 → zS → Prop) (Q : Option Value → zS → Prop) (QX : zS → Prop) (x1 : Int32) (x2 : Int32) (x3 : Int32) (σ : zS) : Prop :=
  zCT zZM zmX10_parameters [.int x1] σ (zQi (fun r2 s1 =>
    ((r2 ≤ x3 →
      ∀ s3 : zS, s3 = zsI s1 0 12 x2 →
      zCT zZM zmX10_u [.ref 0] s3 (zQl (fun r5 s4 =>
        K58 r5 (0 : Int64) s4)) QX) ∧ (¬ r2 ≤ x3 →
      zCT zZM zmX10_parameter [.int x1, .int x3] s1 (zQi (fun r7 s6 =>
        vp_in (s1.1 0 30) 80 ∧ ∀ s8 : zS, s8 = zsI s6 13 (s1.1 0 30).toNatClampNeg r7 →
        ∀ s9 : zS, s9 = zsI s8 0 30 ((s8.1 0 30) + (1 : Int32)) →
        K7 x1 x2 (x3 + 1) s9)) QX)))) QX
def PX10_readLocals_0 (K7 : Int32 → Int32 → Int32 → zS → Prop) (K58 : Int64 → Int64 → zS → Prop) (K80 : Int64 → Int64 → Int64 → Int32 → Int64 → zS → Prop) (Q : Option Value → zS → Prop) (QX : zS → Prop) (a1 : Int32) (a2 : Int32) (σ : zS) : Prop :=
  ∀ s1 : zS, s1 = zsI σ 0 30 (0 : Int32) →
  K7 a1 a2 (0 : Int32) s1
def LIX10_readLocals (I7 : Nat → Int32 → Int32 → Int32 → zS → Prop) (I58 : Nat → Int64 → Int64 → zS → Prop) (I80 : Nat → Int64 → Int64 → Int64 → Int32 → Int64 → zS → Prop) : Nat → Nat → zLo → zS → Prop := fun t n l τ => bif Nat.beq t 7 then zdR 0 0 (zdI 1 (fun x1 => zdI 2 (fun x2 => zdI 3 (fun x3 => zdN (I7 n x1 x2 x3 τ))))) l else bif Nat.beq t 58 then zdR 0 0 (zdL 3 (fun x3 => zdL 5 (fun x5 => zdN (I58 n x3 x5 τ)))) l else bif Nat.beq t 80 then zdR 0 0 (zdL 3 (fun x3 => zdL 5 (fun x5 => zdL 7 (fun x7 => zdI 9 (fun x9 => zdL 10 (fun x10 => zdN (I80 n x3 x5 x7 x9 x10 τ))))))) l else False
def JIX10_readLocals (I7 : Nat → Int32 → Int32 → Int32 → zS → Prop) (I58 : Nat → Int64 → Int64 → zS → Prop) (I80 : Nat → Int64 → Int64 → Int64 → Int32 → Int64 → zS → Prop) (Q : Option Value → zS → Prop) (QX : zS → Prop) : Nat → Option Nat → zLo → zS → Prop := fun t n l τ => False
set_option maxRecDepth 50000 in
theorem pX10_readLocals_0 (I7 : Nat → Int32 → Int32 → Int32 → zS → Prop) (I58 : Nat → Int64 → Int64 → zS → Prop) (I80 : Nat → Int64 → Int64 → Int64 → Int32 → Int64 → zS → Prop) (Q : Option Value → zS → Prop) (QX : zS → Prop)  (a1 : Int32) (a2 : Int32) (σ : zS) (h : PX10_readLocals_0 (fun y1 y2 y3 τ => ∃ n', zlt n' none ∧ I7 n' y1 y2 y3 τ) (fun y3 y5 τ => ∃ n', zlt n' none ∧ I58 n' y3 y5 τ) (fun y3 y5 y7 y9 y10 τ => ∃ n', zlt n' none ∧ I80 n' y3 y5 y7 y9 y10 τ) Q QX a1 a2 σ) : zwp JX10_readLocals (zB hX10_readLocals (zKt jnX10_readLocals (JIX10_readLocals I7 I58 I80 Q QX) (LIX10_readLocals I7 I58 I80) none 0)) Q QX kX10_readLocals 0 (lv_args 0 [.ref 0, .int a1, .int a2]) [] σ := h
set_option maxRecDepth 50000 in
theorem pX10_readLocals_7 (I7 : Nat → Int32 → Int32 → Int32 → zS → Prop) (I58 : Nat → Int64 → Int64 → zS → Prop) (I80 : Nat → Int64 → Int64 → Int64 → Int32 → Int64 → zS → Prop) (Q : Option Value → zS → Prop) (QX : zS → Prop) (m : Nat) (x1 : Int32) (x2 : Int32) (x3 : Int32) (σ : zS) (h : PX10_readLocals_7 (fun y1 y2 y3 τ => ∃ n', zlt n' (some m) ∧ I7 n' y1 y2 y3 τ) (fun y3 y5 τ => ∃ n', zlt n' (some m) ∧ I58 n' y3 y5 τ) (fun y3 y5 y7 y9 y10 τ => ∃ n', zlt n' (some m) ∧ I80 n' y3 y5 y7 y9 y10 τ) Q QX x1 x2 x3 σ) : zwp JX10_readLocals (zB hX10_readLocals (zKt jnX10_readLocals (JIX10_readLocals I7 I58 I80 Q QX) (LIX10_readLocals I7 I58 I80) (some m) 7)) Q QX kX10_readLocals 7 [(0, .ref 0), (1, .int x1), (2, .int x2), (3, .int x3)] [] σ := h
set_option maxRecDepth 50000 in
theorem pX10_readLocals_58 (I7 : Nat → Int32 → Int32 → Int32 → zS → Prop) (I58 : Nat → Int64 → Int64 → zS → Prop) (I80 : Nat → Int64 → Int64 → Int64 → Int32 → Int64 → zS → Prop) (Q : Option Value → zS → Prop) (QX : zS → Prop) (m : Nat) (x3 : Int64) (x5 : Int64) (σ : zS) (h : PX10_readLocals_58 (fun y1 y2 y3 τ => ∃ n', zlt n' (some m) ∧ I7 n' y1 y2 y3 τ) (fun y3 y5 τ => ∃ n', zlt n' (some m) ∧ I58 n' y3 y5 τ) (fun y3 y5 y7 y9 y10 τ => ∃ n', zlt n' (some m) ∧ I80 n' y3 y5 y7 y9 y10 τ) Q QX x3 x5 σ) : zwp JX10_readLocals (zB hX10_readLocals (zKt jnX10_readLocals (JIX10_readLocals I7 I58 I80 Q QX) (LIX10_readLocals I7 I58 I80) (some m) 58)) Q QX kX10_readLocals 58 [(0, .ref 0), (3, .long x3), (5, .long x5)] [] σ := h
set_option maxRecDepth 50000 in
theorem pX10_readLocals_80 (I7 : Nat → Int32 → Int32 → Int32 → zS → Prop) (I58 : Nat → Int64 → Int64 → zS → Prop) (I80 : Nat → Int64 → Int64 → Int64 → Int32 → Int64 → zS → Prop) (Q : Option Value → zS → Prop) (QX : zS → Prop) (m : Nat) (x3 : Int64) (x5 : Int64) (x7 : Int64) (x9 : Int32) (x10 : Int64) (σ : zS) (h : PX10_readLocals_80 (fun y1 y2 y3 τ => ∃ n', zlt n' (some m) ∧ I7 n' y1 y2 y3 τ) (fun y3 y5 τ => ∃ n', zlt n' (some m) ∧ I58 n' y3 y5 τ) (fun y3 y5 y7 y9 y10 τ => ∃ n', zlt n' (some m) ∧ I80 n' y3 y5 y7 y9 y10 τ) Q QX x3 x5 x7 x9 x10 σ) : zwp JX10_readLocals (zB hX10_readLocals (zKt jnX10_readLocals (JIX10_readLocals I7 I58 I80 Q QX) (LIX10_readLocals I7 I58 I80) (some m) 80)) Q QX kX10_readLocals 80 [(0, .ref 0), (3, .long x3), (5, .long x5), (7, .long x7), (9, .int x9), (10, .long x10)] [] σ := h
set_option maxRecDepth 50000 in
theorem rX10_readLocals {Q : Option Value → zS → Prop} {QX : zS → Prop} {a1 : Int32} {a2 : Int32} {σ : zS} (I7 : Nat → Int32 → Int32 → Int32 → zS → Prop) (I58 : Nat → Int64 → Int64 → zS → Prop) (I80 : Nat → Int64 → Int64 → Int64 → Int32 → Int64 → zS → Prop) (hs7 : ∀ (m : Nat) (x1 : Int32) (x2 : Int32) (x3 : Int32) (σ : zS), I7 m x1 x2 x3 σ → PX10_readLocals_7 (fun y1 y2 y3 τ => ∃ n', zlt n' (some m) ∧ I7 n' y1 y2 y3 τ) (fun y3 y5 τ => ∃ n', zlt n' (some m) ∧ I58 n' y3 y5 τ) (fun y3 y5 y7 y9 y10 τ => ∃ n', zlt n' (some m) ∧ I80 n' y3 y5 y7 y9 y10 τ) Q QX x1 x2 x3 σ) (hs58 : ∀ (m : Nat) (x3 : Int64) (x5 : Int64) (σ : zS), I58 m x3 x5 σ → PX10_readLocals_58 (fun y1 y2 y3 τ => ∃ n', zlt n' (some m) ∧ I7 n' y1 y2 y3 τ) (fun y3 y5 τ => ∃ n', zlt n' (some m) ∧ I58 n' y3 y5 τ) (fun y3 y5 y7 y9 y10 τ => ∃ n', zlt n' (some m) ∧ I80 n' y3 y5 y7 y9 y10 τ) Q QX x3 x5 σ) (hs80 : ∀ (m : Nat) (x3 : Int64) (x5 : Int64) (x7 : Int64) (x9 : Int32) (x10 : Int64) (σ : zS), I80 m x3 x5 x7 x9 x10 σ → PX10_readLocals_80 (fun y1 y2 y3 τ => ∃ n', zlt n' (some m) ∧ I7 n' y1 y2 y3 τ) (fun y3 y5 τ => ∃ n', zlt n' (some m) ∧ I58 n' y3 y5 τ) (fun y3 y5 y7 y9 y10 τ => ∃ n', zlt n' (some m) ∧ I80 n' y3 y5 y7 y9 y10 τ) Q QX x3 x5 x7 x9 x10 σ) (h0 : PX10_readLocals_0 (fun y1 y2 y3 τ => ∃ n', zlt n' none ∧ I7 n' y1 y2 y3 τ) (fun y3 y5 τ => ∃ n', zlt n' none ∧ I58 n' y3 y5 τ) (fun y3 y5 y7 y9 y10 τ => ∃ n', zlt n' none ∧ I80 n' y3 y5 y7 y9 y10 τ) Q QX a1 a2 σ) : zCT zZM zmX10_readLocals [.ref 0, .int a1, .int a2] σ Q QX := by
  refine zCT_of zZM_ok pnX10 (Nat.le_of_ble_eq_true rfl) kX10_readLocals ksX10_readLocals JX10_readLocals 81 (fun t ht => ?_) hX10_readLocals jnX10_readLocals (JIX10_readLocals I7 I58 I80 Q QX) (LIX10_readLocals I7 I58 I80) (fun n t ln σ' ht hj hI => ?_) (fun m t ln σ' ht hj hI => ?_) (pX10_readLocals_0 I7 I58 I80 Q QX a1 a2 σ h0)
  · refine zor ht (fun ht => ?_) (fun ht => ?_)
    · skip
      refine zor ht (fun ht => ?_) (fun ht => ?_)
      · skip
        have et := Nat.eq_of_beq_eq_true ht; subst et
        exact Nat.le_of_ble_eq_true rfl
      · skip
        have et := Nat.eq_of_beq_eq_true ht; subst et
        exact Nat.le_of_ble_eq_true rfl
    · skip
      have et := Nat.eq_of_beq_eq_true ht; subst et
      exact Nat.le_of_ble_eq_true rfl
  · refine zor ht (fun ht => ?_) (fun ht => ?_)
    · skip
      refine zor ht (fun ht => ?_) (fun ht => ?_)
      · skip
        have et := Nat.eq_of_beq_eq_true ht; subst et
        cases hj
      · skip
        have et := Nat.eq_of_beq_eq_true ht; subst et
        cases hj
    · skip
      have et := Nat.eq_of_beq_eq_true ht; subst et
      cases hj
  · refine zor ht (fun ht => ?_) (fun ht => ?_)
    · skip
      refine zor ht (fun ht => ?_) (fun ht => ?_)
      · skip
        have et := Nat.eq_of_beq_eq_true ht; subst et
        have hI : LIX10_readLocals I7 I58 I80 7 m ln σ' := hI
        obtain ⟨l0, e0, hI⟩ := zdR_e (i := 0) (q := 0) hI; subst e0
        obtain ⟨x1, l1, e1, hI⟩ := zdI_e (i := 1) hI; subst e1
        obtain ⟨x2, l2, e2, hI⟩ := zdI_e (i := 2) hI; subst e2
        obtain ⟨x3, l3, e3, hI⟩ := zdI_e (i := 3) hI; subst e3
        obtain ⟨e, hI⟩ := zdN_e hI; subst e
        exact pX10_readLocals_7 I7 I58 I80 Q QX m x1 x2 x3 σ' (hs7 m x1 x2 x3 σ' hI)
      · skip
        have et := Nat.eq_of_beq_eq_true ht; subst et
        have hI : LIX10_readLocals I7 I58 I80 58 m ln σ' := hI
        obtain ⟨l0, e0, hI⟩ := zdR_e (i := 0) (q := 0) hI; subst e0
        obtain ⟨x3, l3, e3, hI⟩ := zdL_e (i := 3) hI; subst e3
        obtain ⟨x5, l5, e5, hI⟩ := zdL_e (i := 5) hI; subst e5
        obtain ⟨e, hI⟩ := zdN_e hI; subst e
        exact pX10_readLocals_58 I7 I58 I80 Q QX m x3 x5 σ' (hs58 m x3 x5 σ' hI)
    · skip
      have et := Nat.eq_of_beq_eq_true ht; subst et
      have hI : LIX10_readLocals I7 I58 I80 80 m ln σ' := hI
      obtain ⟨l0, e0, hI⟩ := zdR_e (i := 0) (q := 0) hI; subst e0
      obtain ⟨x3, l3, e3, hI⟩ := zdL_e (i := 3) hI; subst e3
      obtain ⟨x5, l5, e5, hI⟩ := zdL_e (i := 5) hI; subst e5
      obtain ⟨x7, l7, e7, hI⟩ := zdL_e (i := 7) hI; subst e7
      obtain ⟨x9, l9, e9, hI⟩ := zdI_e (i := 9) hI; subst e9
      obtain ⟨x10, l10, e10, hI⟩ := zdL_e (i := 10) hI; subst e10
      obtain ⟨e, hI⟩ := zdN_e hI; subst e
      exact pX10_readLocals_80 I7 I58 I80 Q QX m x3 x5 x7 x9 x10 σ' (hs80 m x3 x5 x7 x9 x10 σ' hI)
def JX10_s : Nat → Bool := fun t => false && Nat.beq t 0
def jnX10_s : Nat → Bool := fun t => false && Nat.beq t 0
def hX10_s : Nat → List Nat := fun t => []
def PX10_s_0  (Q : Option Value → zS → Prop) (QX : zS → Prop)  (σ : zS) : Prop :=
  zCT zZM zmX10_signed [.ref 0, .int (5 : Int32), .int (7 : Int32), .int (120 : Int32)] σ (zQl (fun r2 s1 =>
    Q (some (.int (r2.toInt32))) s1)) QX
def LIX10_s  : Nat → Nat → zLo → zS → Prop := fun t n l τ => False
def JIX10_s  (Q : Option Value → zS → Prop) (QX : zS → Prop) : Nat → Option Nat → zLo → zS → Prop := fun t n l τ => False
set_option maxRecDepth 50000 in
theorem pX10_s_0  (Q : Option Value → zS → Prop) (QX : zS → Prop)   (σ : zS) (h : PX10_s_0  Q QX  σ) : zwp JX10_s (zB hX10_s (zKt jnX10_s (JIX10_s  Q QX) (LIX10_s ) none 0)) Q QX kX10_s 0 (lv_args 0 [.ref 0]) [] σ := h
set_option maxRecDepth 50000 in
theorem rX10_s {Q : Option Value → zS → Prop} {QX : zS → Prop}  {σ : zS}   (h0 : PX10_s_0  Q QX  σ) : zCT zZM zmX10_s [.ref 0] σ Q QX := by
  refine zCT_of zZM_ok pnX10 (Nat.le_of_ble_eq_true rfl) kX10_s ksX10_s JX10_s 1 (fun t ht => ?_) hX10_s jnX10_s (JIX10_s  Q QX) (LIX10_s ) (fun n t ln σ' ht hj hI => ?_) (fun m t ln σ' ht hj hI => ?_) (pX10_s_0  Q QX  σ h0)
  · cases ht
  · cases ht
  · cases ht
def JX10_signature : Nat → Bool := fun t => Nat.beq t 36 || Nat.beq t 105
def jnX10_signature : Nat → Bool := fun t => false && Nat.beq t 0
def hX10_signature : Nat → List Nat := fun t => bif Nat.beq t 36 then [0, 1, 2, 4, 5] else bif Nat.beq t 105 then [0, 1, 4, 5, 7, 8] else []
def PX10_signature_105 (K36 : Int64 → Int32 → Int64 → zS → Prop) (K105 : Int32 → Int64 → Int32 → Int64 → zS → Prop) (Q : Option Value → zS → Prop) (QX : zS → Prop) (x4 : Int32) (x5 : Int64) (x7 : Int32) (x8 : Int64) (σ : zS) : Prop :=
  ((x5 ≤ x8 →
    vp_in (σ.1 1 2) 64 ∧ ∀ s1 : zS, s1 = zsI σ 19 (σ.1 1 2).toNatClampNeg (x4 ||| (x7 <<< ((21 : Int32) &&& 31))) →
    ∀ s2 : zS, s2 = zsI s1 1 2 ((s1.1 1 2) + (1 : Int32)) →
    Q none s2) ∧ (¬ x5 ≤ x8 →
    ((x8 = (1 : Int64) →
      zCT zZM zmX10_wrong [.ref 0, .int (4 : Int32), .int (σ.1 0 12)] σ (zQr (fun r4 s3 =>
        o_athrow zYM 2 Q QX (fun _ _ _ _ => False) [] [.ref r4] s3)) QX) ∧ (¬ x8 = (1 : Int64) →
      zCT zZM zmX10_type [.ref 0] σ (zQi (fun r6 s5 =>
        K105 x4 x5 r6 (x8 + (1 : Int64)) s5)) QX))))
def PX10_signature_36 (K36 : Int64 → Int32 → Int64 → zS → Prop) (K105 : Int32 → Int64 → Int32 → Int64 → zS → Prop) (Q : Option Value → zS → Prop) (QX : zS → Prop) (x2 : Int64) (x4 : Int32) (x5 : Int64) (σ : zS) : Prop :=
  ((x2 ≤ x5 →
    zCT zZM zmX10_u [.ref 0] σ (zQl (fun r2 s1 =>
      K105 (x4 ||| (x2.toInt32)) r2 (2 : Int32) (0 : Int64) s1)) QX) ∧ (¬ x2 ≤ x5 →
    ((x5 = (16 : Int64) →
      zCT zZM zmX10_wrong [.ref 0, .int (4 : Int32), .int (σ.1 0 12)] σ (zQr (fun r4 s3 =>
        o_athrow zYM 2 Q QX (fun _ _ _ _ => False) [] [.ref r4] s3)) QX) ∧ (¬ x5 = (16 : Int64) →
      zCT zZM zmX10_type [.ref 0] σ (zQi (fun r6 s5 =>
        K36 x2 (x4 ||| (r6 <<< (((5 : Int32) + (x5.toInt32)) &&& 31))) (x5 + (1 : Int64)) s5)) QX))))
def PX10_signature_0 (K36 : Int64 → Int32 → Int64 → zS → Prop) (K105 : Int32 → Int64 → Int32 → Int64 → zS → Prop) (Q : Option Value → zS → Prop) (QX : zS → Prop)  (σ : zS) : Prop :=
  (((σ.1 1 2) = (64 : Int32) →
    zCT zZM zmX10_wrong [.ref 0, .int (4 : Int32), .int (σ.1 0 12)] σ (zQr (fun r2 s1 =>
      o_athrow zYM 2 Q QX (fun _ _ _ _ => False) [] [.ref r2] s1)) QX) ∧ (¬ (σ.1 1 2) = (64 : Int32) →
    zCT zZM zmX10_needOctet [.ref 0, .int (96 : Int32)] σ (zQv (fun s3 =>
      zCT zZM zmX10_u [.ref 0] s3 (zQl (fun r5 s4 =>
        K36 r5 (0 : Int32) (0 : Int64) s4)) QX)) QX))
def LIX10_signature (I36 : Nat → Int64 → Int32 → Int64 → zS → Prop) (I105 : Nat → Int32 → Int64 → Int32 → Int64 → zS → Prop) : Nat → Nat → zLo → zS → Prop := fun t n l τ => bif Nat.beq t 36 then zdR 0 0 (zdR 1 1 (zdL 2 (fun x2 => zdI 4 (fun x4 => zdL 5 (fun x5 => zdN (I36 n x2 x4 x5 τ)))))) l else bif Nat.beq t 105 then zdR 0 0 (zdR 1 1 (zdI 4 (fun x4 => zdL 5 (fun x5 => zdI 7 (fun x7 => zdL 8 (fun x8 => zdN (I105 n x4 x5 x7 x8 τ))))))) l else False
def JIX10_signature (I36 : Nat → Int64 → Int32 → Int64 → zS → Prop) (I105 : Nat → Int32 → Int64 → Int32 → Int64 → zS → Prop) (Q : Option Value → zS → Prop) (QX : zS → Prop) : Nat → Option Nat → zLo → zS → Prop := fun t n l τ => False
set_option maxRecDepth 50000 in
theorem pX10_signature_0 (I36 : Nat → Int64 → Int32 → Int64 → zS → Prop) (I105 : Nat → Int32 → Int64 → Int32 → Int64 → zS → Prop) (Q : Option Value → zS → Prop) (QX : zS → Prop)   (σ : zS) (h : PX10_signature_0 (fun y2 y4 y5 τ => ∃ n', zlt n' none ∧ I36 n' y2 y4 y5 τ) (fun y4 y5 y7 y8 τ => ∃ n', zlt n' none ∧ I105 n' y4 y5 y7 y8 τ) Q QX  σ) : zwp JX10_signature (zB hX10_signature (zKt jnX10_signature (JIX10_signature I36 I105 Q QX) (LIX10_signature I36 I105) none 0)) Q QX kX10_signature 0 (lv_args 0 [.ref 0, .ref 1]) [] σ := h
set_option maxRecDepth 50000 in
theorem pX10_signature_36 (I36 : Nat → Int64 → Int32 → Int64 → zS → Prop) (I105 : Nat → Int32 → Int64 → Int32 → Int64 → zS → Prop) (Q : Option Value → zS → Prop) (QX : zS → Prop) (m : Nat) (x2 : Int64) (x4 : Int32) (x5 : Int64) (σ : zS) (h : PX10_signature_36 (fun y2 y4 y5 τ => ∃ n', zlt n' (some m) ∧ I36 n' y2 y4 y5 τ) (fun y4 y5 y7 y8 τ => ∃ n', zlt n' (some m) ∧ I105 n' y4 y5 y7 y8 τ) Q QX x2 x4 x5 σ) : zwp JX10_signature (zB hX10_signature (zKt jnX10_signature (JIX10_signature I36 I105 Q QX) (LIX10_signature I36 I105) (some m) 36)) Q QX kX10_signature 36 [(0, .ref 0), (1, .ref 1), (2, .long x2), (4, .int x4), (5, .long x5)] [] σ := h
set_option maxRecDepth 50000 in
theorem pX10_signature_105 (I36 : Nat → Int64 → Int32 → Int64 → zS → Prop) (I105 : Nat → Int32 → Int64 → Int32 → Int64 → zS → Prop) (Q : Option Value → zS → Prop) (QX : zS → Prop) (m : Nat) (x4 : Int32) (x5 : Int64) (x7 : Int32) (x8 : Int64) (σ : zS) (h : PX10_signature_105 (fun y2 y4 y5 τ => ∃ n', zlt n' (some m) ∧ I36 n' y2 y4 y5 τ) (fun y4 y5 y7 y8 τ => ∃ n', zlt n' (some m) ∧ I105 n' y4 y5 y7 y8 τ) Q QX x4 x5 x7 x8 σ) : zwp JX10_signature (zB hX10_signature (zKt jnX10_signature (JIX10_signature I36 I105 Q QX) (LIX10_signature I36 I105) (some m) 105)) Q QX kX10_signature 105 [(0, .ref 0), (1, .ref 1), (4, .int x4), (5, .long x5), (7, .int x7), (8, .long x8)] [] σ := h
set_option maxRecDepth 50000 in
theorem rX10_signature {Q : Option Value → zS → Prop} {QX : zS → Prop}  {σ : zS} (I36 : Nat → Int64 → Int32 → Int64 → zS → Prop) (I105 : Nat → Int32 → Int64 → Int32 → Int64 → zS → Prop) (hs36 : ∀ (m : Nat) (x2 : Int64) (x4 : Int32) (x5 : Int64) (σ : zS), I36 m x2 x4 x5 σ → PX10_signature_36 (fun y2 y4 y5 τ => ∃ n', zlt n' (some m) ∧ I36 n' y2 y4 y5 τ) (fun y4 y5 y7 y8 τ => ∃ n', zlt n' (some m) ∧ I105 n' y4 y5 y7 y8 τ) Q QX x2 x4 x5 σ) (hs105 : ∀ (m : Nat) (x4 : Int32) (x5 : Int64) (x7 : Int32) (x8 : Int64) (σ : zS), I105 m x4 x5 x7 x8 σ → PX10_signature_105 (fun y2 y4 y5 τ => ∃ n', zlt n' (some m) ∧ I36 n' y2 y4 y5 τ) (fun y4 y5 y7 y8 τ => ∃ n', zlt n' (some m) ∧ I105 n' y4 y5 y7 y8 τ) Q QX x4 x5 x7 x8 σ) (h0 : PX10_signature_0 (fun y2 y4 y5 τ => ∃ n', zlt n' none ∧ I36 n' y2 y4 y5 τ) (fun y4 y5 y7 y8 τ => ∃ n', zlt n' none ∧ I105 n' y4 y5 y7 y8 τ) Q QX  σ) : zCT zZM zmX10_signature [.ref 0, .ref 1] σ Q QX := by
  refine zCT_of zZM_ok pnX10 (Nat.le_of_ble_eq_true rfl) kX10_signature ksX10_signature JX10_signature 106 (fun t ht => ?_) hX10_signature jnX10_signature (JIX10_signature I36 I105 Q QX) (LIX10_signature I36 I105) (fun n t ln σ' ht hj hI => ?_) (fun m t ln σ' ht hj hI => ?_) (pX10_signature_0 I36 I105 Q QX  σ h0)
  · refine zor ht (fun ht => ?_) (fun ht => ?_)
    · skip
      have et := Nat.eq_of_beq_eq_true ht; subst et
      exact Nat.le_of_ble_eq_true rfl
    · skip
      have et := Nat.eq_of_beq_eq_true ht; subst et
      exact Nat.le_of_ble_eq_true rfl
  · refine zor ht (fun ht => ?_) (fun ht => ?_)
    · skip
      have et := Nat.eq_of_beq_eq_true ht; subst et
      cases hj
    · skip
      have et := Nat.eq_of_beq_eq_true ht; subst et
      cases hj
  · refine zor ht (fun ht => ?_) (fun ht => ?_)
    · skip
      have et := Nat.eq_of_beq_eq_true ht; subst et
      have hI : LIX10_signature I36 I105 36 m ln σ' := hI
      obtain ⟨l0, e0, hI⟩ := zdR_e (i := 0) (q := 0) hI; subst e0
      obtain ⟨l1, e1, hI⟩ := zdR_e (i := 1) (q := 1) hI; subst e1
      obtain ⟨x2, l2, e2, hI⟩ := zdL_e (i := 2) hI; subst e2
      obtain ⟨x4, l4, e4, hI⟩ := zdI_e (i := 4) hI; subst e4
      obtain ⟨x5, l5, e5, hI⟩ := zdL_e (i := 5) hI; subst e5
      obtain ⟨e, hI⟩ := zdN_e hI; subst e
      exact pX10_signature_36 I36 I105 Q QX m x2 x4 x5 σ' (hs36 m x2 x4 x5 σ' hI)
    · skip
      have et := Nat.eq_of_beq_eq_true ht; subst et
      have hI : LIX10_signature I36 I105 105 m ln σ' := hI
      obtain ⟨l0, e0, hI⟩ := zdR_e (i := 0) (q := 0) hI; subst e0
      obtain ⟨l1, e1, hI⟩ := zdR_e (i := 1) (q := 1) hI; subst e1
      obtain ⟨x4, l4, e4, hI⟩ := zdI_e (i := 4) hI; subst e4
      obtain ⟨x5, l5, e5, hI⟩ := zdL_e (i := 5) hI; subst e5
      obtain ⟨x7, l7, e7, hI⟩ := zdI_e (i := 7) hI; subst e7
      obtain ⟨x8, l8, e8, hI⟩ := zdL_e (i := 8) hI; subst e8
      obtain ⟨e, hI⟩ := zdN_e hI; subst e
      exact pX10_signature_105 I36 I105 Q QX m x4 x5 x7 x8 σ' (hs105 m x4 x5 x7 x8 σ' hI)
def JX10_checkOne : Nat → Bool := fun t => Nat.beq t 308 || Nat.beq t 761 || Nat.beq t 927
def jnX10_checkOne : Nat → Bool := fun t => Nat.beq t 308 || Nat.beq t 761 || Nat.beq t 927
def hX10_checkOne : Nat → List Nat := fun t => bif Nat.beq t 308 then [0, 2, 7] else bif Nat.beq t 761 then [0, 2, 5] else bif Nat.beq t 927 then [0, 1, 2] else []
def PX10_checkOne_927  (Q : Option Value → zS → Prop) (QX : zS → Prop) (x2 : Int32) (σ : zS) : Prop :=
  zCT zZM zmX10_access [.ref 0, .ref 1, .int x2] σ (zQv (fun s1 =>
    Q none s1)) QX
def PX10_checkOne_761  (Q : Option Value → zS → Prop) (QX : zS → Prop) (x2 : Int32) (x5 : Int64) (σ : zS) : Prop :=
  ((x2 = (33 : Int32) →
    Q none σ) ∧ (¬ x2 = (33 : Int32) →
    vp_in (x5.toInt32) 80 ∧
    zCT zZM zmX10_gives [.ref 0, .int (σ.1 13 (x5.toInt32).toNatClampNeg)] σ (zQv (fun s1 =>
      Q none s1)) QX))
def PX10_checkOne_308  (Q : Option Value → zS → Prop) (QX : zS → Prop) (x2 : Int32) (x7 : Int32) (σ : zS) : Prop :=
  ((x2 = (3 : Int32) →
    zCT zZM zmX10_openFrame [.ref 0, .int x2, .int (2 : Int32), .int x7] σ (zQv (fun s1 =>
      Q none s1)) QX) ∧ (¬ x2 = (3 : Int32) →
    zCT zZM zmX10_openFrame [.ref 0, .int x2, .int x7, .int x7] σ (zQv (fun s2 =>
      Q none s2)) QX))
def PX10_checkOne_0  (Q : Option Value → zS → Prop) (QX : zS → Prop) (a1 : Int32) (a2 : Int32) (σ : zS) : Prop :=
  ((a1 = 0 →
    zCT zZM zmX10_rest [.ref 0] σ (zQv (fun s1 =>
      Q none s1)) QX) ∧ (¬ a1 = 0 →
  ((a1 = 1 →
    Q none σ) ∧ (¬ a1 = 1 →
  ((zin a1 [2, 3, 4] →
    zCT zZM zmX10_blockType [.ref 0] σ (zQi (fun r3 s2 =>
      ((a1 = (4 : Int32) →
        zCT zZM zmX10_takes [.ref 0, .int (0 : Int32)] s2 (zQi (fun r5 s4 =>
          PX10_checkOne_308 Q QX a1 r3 s4)) QX) ∧ (¬ a1 = (4 : Int32) →
        PX10_checkOne_308 Q QX a1 r3 s2)))) QX) ∧ (¬ zin a1 [2, 3, 4] →
  ((a1 = 5 →
    zCT zZM zmX10_closes [.ref 0] σ (zQv (fun s6 =>
      vp_in ((s6.1 0 28) - (1 : Int32)) 61 ∧ ∀ s7 : zS, s7 = zsI s6 11 ((s6.1 0 28) - (1 : Int32)).toNatClampNeg (5 : Int32) →
      vp_in ((s7.1 0 28) - (1 : Int32)) 61 ∧ ∀ s8 : zS, s8 = zsI s7 12 ((s7.1 0 28) - (1 : Int32)).toNatClampNeg (vp_nar .boolean (0 : Int32)) →
      vp_in ((s8.1 0 28) - (1 : Int32)) 61 ∧
      ∀ s9 : zS, s9 = zsI s8 0 22 (s8.1 10 ((s8.1 0 28) - (1 : Int32)).toNatClampNeg) →
      Q none s9)) QX) ∧ (¬ a1 = 5 →
  ((a1 = 11 →
    zCT zZM zmX10_closes [.ref 0] σ (zQv (fun s10 =>
      vp_in ((s10.1 0 28) - (1 : Int32)) 61 ∧
      vp_in ((s10.1 0 28) - (1 : Int32)) 61 ∧
      (((s10.1 11 ((s10.1 0 28) - (1 : Int32)).toNatClampNeg) = (4 : Int32) →
        (((s10.1 9 ((s10.1 0 28) - (1 : Int32)).toNatClampNeg) = (2 : Int32) →
          zCT zZM zmX10_need [.ref 0, .int (1 : Int32)] s10 (zQv (fun s11 =>
            vp_in ((s11.1 0 28) - (1 : Int32)) 61 ∧
            ∀ s12 : zS, s12 = zsI s11 0 22 (s11.1 10 ((s11.1 0 28) - (1 : Int32)).toNatClampNeg) →
            ∀ s13 : zS, s13 = zsI s12 0 28 ((s12.1 0 28) - (1 : Int32)) →
            zCT zZM zmX10_gives [.ref 0, .int (s10.1 9 ((s10.1 0 28) - (1 : Int32)).toNatClampNeg)] s13 (zQv (fun s14 =>
              Q none s14)) QX)) QX) ∧ (¬ (s10.1 9 ((s10.1 0 28) - (1 : Int32)).toNatClampNeg) = (2 : Int32) →
          zCT zZM zmX10_need [.ref 0, .int (0 : Int32)] s10 (zQv (fun s15 =>
            vp_in ((s15.1 0 28) - (1 : Int32)) 61 ∧
            ∀ s16 : zS, s16 = zsI s15 0 22 (s15.1 10 ((s15.1 0 28) - (1 : Int32)).toNatClampNeg) →
            ∀ s17 : zS, s17 = zsI s16 0 28 ((s16.1 0 28) - (1 : Int32)) →
            zCT zZM zmX10_gives [.ref 0, .int (s10.1 9 ((s10.1 0 28) - (1 : Int32)).toNatClampNeg)] s17 (zQv (fun s18 =>
              Q none s18)) QX)) QX))) ∧ (¬ (s10.1 11 ((s10.1 0 28) - (1 : Int32)).toNatClampNeg) = (4 : Int32) →
        zCT zZM zmX10_need [.ref 0, .int (1 : Int32)] s10 (zQv (fun s19 =>
          vp_in ((s19.1 0 28) - (1 : Int32)) 61 ∧
          ∀ s20 : zS, s20 = zsI s19 0 22 (s19.1 10 ((s19.1 0 28) - (1 : Int32)).toNatClampNeg) →
          ∀ s21 : zS, s21 = zsI s20 0 28 ((s20.1 0 28) - (1 : Int32)) →
          zCT zZM zmX10_gives [.ref 0, .int (s10.1 9 ((s10.1 0 28) - (1 : Int32)).toNatClampNeg)] s21 (zQv (fun s22 =>
            Q none s22)) QX)) QX)))) QX) ∧ (¬ a1 = 11 →
  ((a1 = 12 →
    zCT zZM zmX10_u [.ref 0] σ (zQl (fun r24 s23 =>
      zCT zZM zmX10_label [.ref 0, .long r24] s23 (zQi (fun r26 s25 =>
        zCT zZM zmX10_takes [.ref 0, .int r26] s25 (zQi (fun r28 s27 =>
          zCT zZM zmX10_rest [.ref 0] s27 (zQv (fun s29 =>
            Q none s29)) QX)) QX)) QX)) QX) ∧ (¬ a1 = 12 →
  ((a1 = 13 →
    zCT zZM zmX10_u [.ref 0] σ (zQl (fun r31 s30 =>
      zCT zZM zmX10_label [.ref 0, .long r31] s30 (zQi (fun r33 s32 =>
        zCT zZM zmX10_takes [.ref 0, .int (0 : Int32)] s32 (zQi (fun r35 s34 =>
          zCT zZM zmX10_takes [.ref 0, .int r33] s34 (zQi (fun r37 s36 =>
            zCT zZM zmX10_gives [.ref 0, .int r33] s36 (zQv (fun s38 =>
              Q none s38)) QX)) QX)) QX)) QX)) QX) ∧ (¬ a1 = 13 →
  ((a1 = 14 →
    zCT zZM zmX10_labelRow [.ref 0] σ (zQv (fun s39 =>
      Q none s39)) QX) ∧ (¬ a1 = 14 →
  ((a1 = 15 →
    zCT zZM zmX10_resultOf [.int a2] σ (zQi (fun r41 s40 =>
      zCT zZM zmX10_takes [.ref 0, .int r41] s40 (zQi (fun r43 s42 =>
        zCT zZM zmX10_rest [.ref 0] s42 (zQv (fun s44 =>
          Q none s44)) QX)) QX)) QX) ∧ (¬ a1 = 15 →
  ((a1 = 16 →
    zCT zZM zmX10_u [.ref 0] σ (zQl (fun r46 s45 =>
      zCT zZM zmX10_functionsOf [.ref 1] s45 (zQi (fun r48 s47 =>
        (((r48.toInt64) ≤ r46 →
          zCT zZM zmX10_need [.ref 0, .int (0 : Int32)] s47 (zQv (fun s49 =>
            (((s49.1 0 31) = 0 →
              Q none s49) ∧ (¬ (s49.1 0 31) = 0 →
              zCT zZM zmX10_sigOf [.ref 1, .int (r46.toInt32)] s49 (zQi (fun r51 s50 =>
                zCT zZM zmX10_calls [.ref 0, .int r51] s50 (zQv (fun s52 =>
                  Q none s52)) QX)) QX)))) QX) ∧ (¬ (r48.toInt64) ≤ r46 →
          zCT zZM zmX10_need [.ref 0, .int (1 : Int32)] s47 (zQv (fun s53 =>
            (((s53.1 0 31) = 0 →
              Q none s53) ∧ (¬ (s53.1 0 31) = 0 →
              zCT zZM zmX10_sigOf [.ref 1, .int (r46.toInt32)] s53 (zQi (fun r55 s54 =>
                zCT zZM zmX10_calls [.ref 0, .int r55] s54 (zQv (fun s56 =>
                  Q none s56)) QX)) QX)))) QX)))) QX)) QX) ∧ (¬ a1 = 16 →
  ((a1 = 17 →
    zCT zZM zmX10_u [.ref 0] σ (zQl (fun r58 s57 =>
      zCT zZM zmX10_needOctet [.ref 0, .int (0 : Int32)] s57 (zQv (fun s59 =>
        ((((s59.1 1 2).toInt64) ≤ r58 →
          zCT zZM zmX10_need [.ref 0, .int (0 : Int32)] s59 (zQv (fun s60 =>
            zCT zZM zmX10_takes [.ref 0, .int (0 : Int32)] s60 (zQi (fun r62 s61 =>
              (((s61.1 0 31) = 0 →
                Q none s61) ∧ (¬ (s61.1 0 31) = 0 →
                vp_in (r58.toInt32) 64 ∧
                zCT zZM zmX10_calls [.ref 0, .int (s61.1 19 (r58.toInt32).toNatClampNeg)] s61 (zQv (fun s63 =>
                  Q none s63)) QX)))) QX)) QX) ∧ (¬ ((s59.1 1 2).toInt64) ≤ r58 →
          zCT zZM zmX9_has [.ref 1, .int (1 : Int32)] s59 (zQi (fun r65 s64 =>
            ((r65 = 0 →
              zCT zZM zmX10_need [.ref 0, .int (0 : Int32)] s64 (zQv (fun s66 =>
                zCT zZM zmX10_takes [.ref 0, .int (0 : Int32)] s66 (zQi (fun r68 s67 =>
                  (((s67.1 0 31) = 0 →
                    Q none s67) ∧ (¬ (s67.1 0 31) = 0 →
                    vp_in (r58.toInt32) 64 ∧
                    zCT zZM zmX10_calls [.ref 0, .int (s67.1 19 (r58.toInt32).toNatClampNeg)] s67 (zQv (fun s69 =>
                      Q none s69)) QX)))) QX)) QX) ∧ (¬ r65 = 0 →
              zCT zZM zmX10_need [.ref 0, .int (1 : Int32)] s64 (zQv (fun s70 =>
                zCT zZM zmX10_takes [.ref 0, .int (0 : Int32)] s70 (zQi (fun r72 s71 =>
                  (((s71.1 0 31) = 0 →
                    Q none s71) ∧ (¬ (s71.1 0 31) = 0 →
                    vp_in (r58.toInt32) 64 ∧
                    zCT zZM zmX10_calls [.ref 0, .int (s71.1 19 (r58.toInt32).toNatClampNeg)] s71 (zQv (fun s73 =>
                      Q none s73)) QX)))) QX)) QX)))) QX)))) QX)) QX) ∧ (¬ a1 = 17 →
  ((a1 = 26 →
    zCT zZM zmX10_takes [.ref 0, .int (3 : Int32)] σ (zQi (fun r75 s74 =>
      Q none s74)) QX) ∧ (¬ a1 = 26 →
  ((a1 = 27 →
    zCT zZM zmX10_takes [.ref 0, .int (0 : Int32)] σ (zQi (fun r77 s76 =>
      zCT zZM zmX10_takes [.ref 0, .int (3 : Int32)] s76 (zQi (fun r79 s78 =>
        zCT zZM zmX10_takes [.ref 0, .int (3 : Int32)] s78 (zQi (fun r81 s80 =>
          ((r79 = r81 →
            zCT zZM zmX10_need [.ref 0, .int (1 : Int32)] s80 (zQv (fun s82 =>
              ((r79 = (3 : Int32) →
                zCT zZM zmX10_gives [.ref 0, .int r81] s82 (zQv (fun s83 =>
                  Q none s83)) QX) ∧ (¬ r79 = (3 : Int32) →
                zCT zZM zmX10_gives [.ref 0, .int r79] s82 (zQv (fun s84 =>
                  Q none s84)) QX)))) QX) ∧ (¬ r79 = r81 →
            ((r79 = (3 : Int32) →
              zCT zZM zmX10_need [.ref 0, .int (1 : Int32)] s80 (zQv (fun s85 =>
                ((r79 = (3 : Int32) →
                  zCT zZM zmX10_gives [.ref 0, .int r81] s85 (zQv (fun s86 =>
                    Q none s86)) QX) ∧ (¬ r79 = (3 : Int32) →
                  zCT zZM zmX10_gives [.ref 0, .int r79] s85 (zQv (fun s87 =>
                    Q none s87)) QX)))) QX) ∧ (¬ r79 = (3 : Int32) →
              ((r81 = (3 : Int32) →
                zCT zZM zmX10_need [.ref 0, .int (1 : Int32)] s80 (zQv (fun s88 =>
                  ((r79 = (3 : Int32) →
                    zCT zZM zmX10_gives [.ref 0, .int r81] s88 (zQv (fun s89 =>
                      Q none s89)) QX) ∧ (¬ r79 = (3 : Int32) →
                    zCT zZM zmX10_gives [.ref 0, .int r79] s88 (zQv (fun s90 =>
                      Q none s90)) QX)))) QX) ∧ (¬ r81 = (3 : Int32) →
                zCT zZM zmX10_need [.ref 0, .int (0 : Int32)] s80 (zQv (fun s91 =>
                  ((r79 = (3 : Int32) →
                    zCT zZM zmX10_gives [.ref 0, .int r81] s91 (zQv (fun s92 =>
                      Q none s92)) QX) ∧ (¬ r79 = (3 : Int32) →
                    zCT zZM zmX10_gives [.ref 0, .int r79] s91 (zQv (fun s93 =>
                      Q none s93)) QX)))) QX)))))))) QX)) QX)) QX) ∧ (¬ a1 = 27 →
  ((zin a1 [32, 33, 34] →
    zCT zZM zmX10_u [.ref 0] σ (zQl (fun r95 s94 =>
      ((((s94.1 0 30).toInt64) ≤ r95 →
        zCT zZM zmX10_need [.ref 0, .int (0 : Int32)] s94 (zQv (fun s96 =>
          (((s96.1 0 31) = 0 →
            Q none s96) ∧ (¬ (s96.1 0 31) = 0 →
            ((a1 ≤ (32 : Int32) →
              PX10_checkOne_761 Q QX a1 r95 s96) ∧ (¬ a1 ≤ (32 : Int32) →
              vp_in (r95.toInt32) 80 ∧
              zCT zZM zmX10_takes [.ref 0, .int (s96.1 13 (r95.toInt32).toNatClampNeg)] s96 (zQi (fun r98 s97 =>
                PX10_checkOne_761 Q QX a1 r95 s97)) QX)))))) QX) ∧ (¬ ((s94.1 0 30).toInt64) ≤ r95 →
        zCT zZM zmX10_need [.ref 0, .int (1 : Int32)] s94 (zQv (fun s99 =>
          (((s99.1 0 31) = 0 →
            Q none s99) ∧ (¬ (s99.1 0 31) = 0 →
            ((a1 ≤ (32 : Int32) →
              PX10_checkOne_761 Q QX a1 r95 s99) ∧ (¬ a1 ≤ (32 : Int32) →
              vp_in (r95.toInt32) 80 ∧
              zCT zZM zmX10_takes [.ref 0, .int (s99.1 13 (r95.toInt32).toNatClampNeg)] s99 (zQi (fun r101 s100 =>
                PX10_checkOne_761 Q QX a1 r95 s100)) QX)))))) QX)))) QX) ∧ (¬ zin a1 [32, 33, 34] →
  ((zin a1 [35, 36] →
    zCT zZM zmX10_u [.ref 0] σ (zQl (fun r103 s102 =>
      zCT zZM zmX10_globalsOf [.ref 1] s102 (zQi (fun r105 s104 =>
        (((r105.toInt64) ≤ r103 →
          zCT zZM zmX10_need [.ref 0, .int (0 : Int32)] s104 (zQv (fun s106 =>
            (((s106.1 0 31) = 0 →
              Q none s106) ∧ (¬ (s106.1 0 31) = 0 →
              ((a1 = (35 : Int32) →
                zCT zZM zmX10_typeOf [.ref 1, .int (r103.toInt32)] s106 (zQi (fun r108 s107 =>
                  zCT zZM zmX10_gives [.ref 0, .int r108] s107 (zQv (fun s109 =>
                    Q none s109)) QX)) QX) ∧ (¬ a1 = (35 : Int32) →
                zCT zZM zmX10_typeOf [.ref 1, .int (r103.toInt32)] s106 (zQi (fun r111 s110 =>
                  zCT zZM zmX10_takes [.ref 0, .int r111] s110 (zQi (fun r113 s112 =>
                    Q none s112)) QX)) QX)))))) QX) ∧ (¬ (r105.toInt64) ≤ r103 →
          ((a1 = (35 : Int32) →
            zCT zZM zmX10_need [.ref 0, .int (1 : Int32)] s104 (zQv (fun s114 =>
              (((s114.1 0 31) = 0 →
                Q none s114) ∧ (¬ (s114.1 0 31) = 0 →
                ((a1 = (35 : Int32) →
                  zCT zZM zmX10_typeOf [.ref 1, .int (r103.toInt32)] s114 (zQi (fun r116 s115 =>
                    zCT zZM zmX10_gives [.ref 0, .int r116] s115 (zQv (fun s117 =>
                      Q none s117)) QX)) QX) ∧ (¬ a1 = (35 : Int32) →
                  zCT zZM zmX10_typeOf [.ref 1, .int (r103.toInt32)] s114 (zQi (fun r119 s118 =>
                    zCT zZM zmX10_takes [.ref 0, .int r119] s118 (zQi (fun r121 s120 =>
                      Q none s120)) QX)) QX)))))) QX) ∧ (¬ a1 = (35 : Int32) →
            zCT zZM zmX10_isChanged [.ref 1, .int (r103.toInt32)] s104 (zQi (fun r123 s122 =>
              ((r123 = 0 →
                zCT zZM zmX10_need [.ref 0, .int (0 : Int32)] s122 (zQv (fun s124 =>
                  (((s124.1 0 31) = 0 →
                    Q none s124) ∧ (¬ (s124.1 0 31) = 0 →
                    ((a1 = (35 : Int32) →
                      zCT zZM zmX10_typeOf [.ref 1, .int (r103.toInt32)] s124 (zQi (fun r126 s125 =>
                        zCT zZM zmX10_gives [.ref 0, .int r126] s125 (zQv (fun s127 =>
                          Q none s127)) QX)) QX) ∧ (¬ a1 = (35 : Int32) →
                      zCT zZM zmX10_typeOf [.ref 1, .int (r103.toInt32)] s124 (zQi (fun r129 s128 =>
                        zCT zZM zmX10_takes [.ref 0, .int r129] s128 (zQi (fun r131 s130 =>
                          Q none s130)) QX)) QX)))))) QX) ∧ (¬ r123 = 0 →
                zCT zZM zmX10_need [.ref 0, .int (1 : Int32)] s122 (zQv (fun s132 =>
                  (((s132.1 0 31) = 0 →
                    Q none s132) ∧ (¬ (s132.1 0 31) = 0 →
                    ((a1 = (35 : Int32) →
                      zCT zZM zmX10_typeOf [.ref 1, .int (r103.toInt32)] s132 (zQi (fun r134 s133 =>
                        zCT zZM zmX10_gives [.ref 0, .int r134] s133 (zQv (fun s135 =>
                          Q none s135)) QX)) QX) ∧ (¬ a1 = (35 : Int32) →
                      zCT zZM zmX10_typeOf [.ref 1, .int (r103.toInt32)] s132 (zQi (fun r137 s136 =>
                        zCT zZM zmX10_takes [.ref 0, .int r137] s136 (zQi (fun r139 s138 =>
                          Q none s138)) QX)) QX)))))) QX)))) QX)))))) QX)) QX) ∧ (¬ zin a1 [35, 36] →
  ((zin a1 [63, 64] →
    zCT zZM zmX10_needOctet [.ref 0, .int (0 : Int32)] σ (zQv (fun s140 =>
      zCT zZM zmX9_has [.ref 1, .int (2 : Int32)] s140 (zQi (fun r142 s141 =>
        zCT zZM zmX10_need [.ref 0, .int r142] s141 (zQv (fun s143 =>
          zCT zZM zmX10_turns [.ref 0, .int (0 : Int32), .int (a1 - (63 : Int32)), .int (0 : Int32)] s143 (zQv (fun s144 =>
            Q none s144)) QX)) QX)) QX)) QX) ∧ (¬ zin a1 [63, 64] →
  ((a1 = 65 →
    zCT zZM zmX10_s [.ref 0] σ (zQi (fun r146 s145 =>
      zCT zZM zmX10_gives [.ref 0, .int (0 : Int32)] s145 (zQv (fun s147 =>
        Q none s147)) QX)) QX) ∧ (¬ a1 = 65 →
  ((a1 = 66 →
    zCT zZM zmX10_l [.ref 0] σ (zQl (fun r149 s148 =>
      zCT zZM zmX10_gives [.ref 0, .int (1 : Int32)] s148 (zQv (fun s150 =>
        Q none s150)) QX)) QX) ∧ (¬ a1 = 66 →
    zCT zZM zmX10_isLoad [.int a1] σ (zQi (fun r152 s151 =>
      ((r152 = 0 →
        zCT zZM zmX10_isStore [.int a1] s151 (zQi (fun r154 s153 =>
          ((r154 = 0 →
            zCT zZM zmX10_numbers [.ref 0, .int a1] s153 (zQv (fun s155 =>
              Q none s155)) QX) ∧ (¬ r154 = 0 →
            PX10_checkOne_927 Q QX a1 s153)))) QX) ∧ (¬ r152 = 0 →
        PX10_checkOne_927 Q QX a1 s151)))) QX))))))))))))))))))))))))))))))))))))
def LIX10_checkOne  : Nat → Nat → zLo → zS → Prop := fun t n l τ => False
def JIX10_checkOne  (Q : Option Value → zS → Prop) (QX : zS → Prop) : Nat → Option Nat → zLo → zS → Prop := fun t n l τ => bif Nat.beq t 308 then zdR 0 0 (zdI 2 (fun x2 => zdI 7 (fun x7 => zdN (PX10_checkOne_308  Q QX x2 x7 τ)))) l else bif Nat.beq t 761 then zdR 0 0 (zdI 2 (fun x2 => zdL 5 (fun x5 => zdN (PX10_checkOne_761  Q QX x2 x5 τ)))) l else bif Nat.beq t 927 then zdR 0 0 (zdR 1 1 (zdI 2 (fun x2 => zdN (PX10_checkOne_927  Q QX x2 τ)))) l else False
set_option maxRecDepth 50000 in
theorem pX10_checkOne_0  (Q : Option Value → zS → Prop) (QX : zS → Prop)  (a1 : Int32) (a2 : Int32) (σ : zS) (h : PX10_checkOne_0  Q QX a1 a2 σ) : zwp JX10_checkOne (zB hX10_checkOne (zKt jnX10_checkOne (JIX10_checkOne  Q QX) (LIX10_checkOne ) none 0)) Q QX kX10_checkOne 0 (lv_args 0 [.ref 0, .ref 1, .int a1, .int a2]) [] σ := h
set_option maxRecDepth 50000 in
theorem pX10_checkOne_308  (Q : Option Value → zS → Prop) (QX : zS → Prop) (n : Option Nat) (x2 : Int32) (x7 : Int32) (σ : zS) (h : PX10_checkOne_308  Q QX x2 x7 σ) : zwp JX10_checkOne (zB hX10_checkOne (zKt jnX10_checkOne (JIX10_checkOne  Q QX) (LIX10_checkOne ) n 308)) Q QX kX10_checkOne 308 [(0, .ref 0), (2, .int x2), (7, .int x7)] [] σ := h
set_option maxRecDepth 50000 in
theorem pX10_checkOne_761  (Q : Option Value → zS → Prop) (QX : zS → Prop) (n : Option Nat) (x2 : Int32) (x5 : Int64) (σ : zS) (h : PX10_checkOne_761  Q QX x2 x5 σ) : zwp JX10_checkOne (zB hX10_checkOne (zKt jnX10_checkOne (JIX10_checkOne  Q QX) (LIX10_checkOne ) n 761)) Q QX kX10_checkOne 761 [(0, .ref 0), (2, .int x2), (5, .long x5)] [] σ := h
set_option maxRecDepth 50000 in
theorem pX10_checkOne_927  (Q : Option Value → zS → Prop) (QX : zS → Prop) (n : Option Nat) (x2 : Int32) (σ : zS) (h : PX10_checkOne_927  Q QX x2 σ) : zwp JX10_checkOne (zB hX10_checkOne (zKt jnX10_checkOne (JIX10_checkOne  Q QX) (LIX10_checkOne ) n 927)) Q QX kX10_checkOne 927 [(0, .ref 0), (1, .ref 1), (2, .int x2)] [] σ := h
set_option maxRecDepth 50000 in
theorem rX10_checkOne {Q : Option Value → zS → Prop} {QX : zS → Prop} {a1 : Int32} {a2 : Int32} {σ : zS}   (h0 : PX10_checkOne_0  Q QX a1 a2 σ) : zCT zZM zmX10_checkOne [.ref 0, .ref 1, .int a1, .int a2] σ Q QX := by
  refine zCT_of zZM_ok pnX10 (Nat.le_of_ble_eq_true rfl) kX10_checkOne ksX10_checkOne JX10_checkOne 928 (fun t ht => ?_) hX10_checkOne jnX10_checkOne (JIX10_checkOne  Q QX) (LIX10_checkOne ) (fun n t ln σ' ht hj hI => ?_) (fun m t ln σ' ht hj hI => ?_) (pX10_checkOne_0  Q QX a1 a2 σ h0)
  · refine zor ht (fun ht => ?_) (fun ht => ?_)
    · skip
      refine zor ht (fun ht => ?_) (fun ht => ?_)
      · skip
        have et := Nat.eq_of_beq_eq_true ht; subst et
        exact Nat.le_of_ble_eq_true rfl
      · skip
        have et := Nat.eq_of_beq_eq_true ht; subst et
        exact Nat.le_of_ble_eq_true rfl
    · skip
      have et := Nat.eq_of_beq_eq_true ht; subst et
      exact Nat.le_of_ble_eq_true rfl
  · refine zor ht (fun ht => ?_) (fun ht => ?_)
    · skip
      refine zor ht (fun ht => ?_) (fun ht => ?_)
      · skip
        have et := Nat.eq_of_beq_eq_true ht; subst et
        have hI : JIX10_checkOne  Q QX 308 n ln σ' := hI
        obtain ⟨l0, e0, hI⟩ := zdR_e (i := 0) (q := 0) hI; subst e0
        obtain ⟨x2, l2, e2, hI⟩ := zdI_e (i := 2) hI; subst e2
        obtain ⟨x7, l7, e7, hI⟩ := zdI_e (i := 7) hI; subst e7
        obtain ⟨e, hI⟩ := zdN_e hI; subst e
        exact pX10_checkOne_308  Q QX n x2 x7 σ' hI
      · skip
        have et := Nat.eq_of_beq_eq_true ht; subst et
        have hI : JIX10_checkOne  Q QX 761 n ln σ' := hI
        obtain ⟨l0, e0, hI⟩ := zdR_e (i := 0) (q := 0) hI; subst e0
        obtain ⟨x2, l2, e2, hI⟩ := zdI_e (i := 2) hI; subst e2
        obtain ⟨x5, l5, e5, hI⟩ := zdL_e (i := 5) hI; subst e5
        obtain ⟨e, hI⟩ := zdN_e hI; subst e
        exact pX10_checkOne_761  Q QX n x2 x5 σ' hI
    · skip
      have et := Nat.eq_of_beq_eq_true ht; subst et
      have hI : JIX10_checkOne  Q QX 927 n ln σ' := hI
      obtain ⟨l0, e0, hI⟩ := zdR_e (i := 0) (q := 0) hI; subst e0
      obtain ⟨l1, e1, hI⟩ := zdR_e (i := 1) (q := 1) hI; subst e1
      obtain ⟨x2, l2, e2, hI⟩ := zdI_e (i := 2) hI; subst e2
      obtain ⟨e, hI⟩ := zdN_e hI; subst e
      exact pX10_checkOne_927  Q QX n x2 σ' hI
  · refine zor ht (fun ht => ?_) (fun ht => ?_)
    · skip
      refine zor ht (fun ht => ?_) (fun ht => ?_)
      · skip
        have et := Nat.eq_of_beq_eq_true ht; subst et
        cases hj
      · skip
        have et := Nat.eq_of_beq_eq_true ht; subst et
        cases hj
    · skip
      have et := Nat.eq_of_beq_eq_true ht; subst et
      cases hj
