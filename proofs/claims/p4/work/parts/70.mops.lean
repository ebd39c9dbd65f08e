/-! what follows an instruction's first byte -/
theorem lN_eqB {a b : Nat} (ha : a < 2 ^ 62) (hb : b < 2 ^ 62) : lN a = lN b ↔ a = b :=
  ⟨fun h => Nat.le_antisymm ((lN_leB ha hb).mp (h ▸ Int64.le_refl _)) ((lN_leB hb ha).mp (h ▸ Int64.le_refl _)), fun h => by rw [h]⟩
def folI (n : Nat) : Int32 := if n = 10 then -1 else nI n
theorem folI_eq : ∀ n, n ≤ 10 → ∀ k, k ≤ 9 → (folI n = nI k ↔ n = k) := by decide +kernel
def isLdN (x : Nat) : Bool := decide (x = 40) || decide (x = 41) || (decide (44 ≤ x) && decide (x ≤ 53))
def isStN (x : Nat) : Bool := decide (x = 54) || decide (x = 55) || (decide (58 ≤ x) && decide (x ≤ 62))
def bI (c : Bool) : Int32 := if c = true then 1 else 0
theorem bI_0 (c : Bool) : bI c = 0 ↔ c = false := by cases c <;> decide
def fo202 (x : Nat) : Nat := if x = 252 then 9 else 10
def fo165 (x : Nat) : Nat := if x = 167 then 0 else if x = 172 then 0 else if x = 173 then 0 else if x < 192 then fo202 x else if 196 < x then fo202 x else 0
def fo152 (x : Nat) : Nat := if x < 103 then fo165 x else if x ≤ 138 then 0 else fo165 x
def fo75 (x : Nat) : Nat := if x = 14 then 8 else if x = 17 then 6 else if isLdN x = false then (if isStN x = false then (if x = 63 then 7 else if x = 64 then 7 else if x = 65 then 3 else if x = 66 then 4 else if x < 69 then fo152 x else if x ≤ 90 then 0 else fo152 x) else 5) else 5
def fo0 (x : Nat) : Nat := if x ≤ 1 then 0 else if x = 5 then 0 else if x = 11 then 0 else if x = 15 then 0 else if x = 26 then 0 else if x = 27 then 0 else if 4 < x then (if x = 12 then 2 else if x = 13 then 2 else if x = 16 then 2 else if x < 32 then fo75 x else if 36 < x then fo75 x else 2) else 1
theorem fo0_eq : ∀ x, x < 256 → fo0 x = mFollows x := by decide +kernel
theorem mFollows_le : ∀ x, x < 256 → mFollows x ≤ 10 := by decide +kernel
theorem sp_isLoad {x : Nat} {σ : zS} {K : Int32 → zS → Prop} {QX : zS → Prop} (hx : x < 256) (h : K (bI (isLdN x)) σ) : zCT zZM zmX10_isLoad [.int (nI x)] σ (zQi K) QX := by
  refine rX10_isLoad ?_
  unfold PX10_isLoad_0
  have e40 : nI x = (40 : Int32) ↔ x = 40 := nI_eq (b := 40) (by omega) (by decide)
  have e41 : nI x = (41 : Int32) ↔ x = 41 := nI_eq (b := 41) (by omega) (by decide)
  have l44 : nI x < (44 : Int32) ↔ x < 44 := nI_ltI (b := 44) (by omega) (by decide)
  have g53 : (53 : Int32) < nI x ↔ 53 < x := nI_ltI (a := 53) (by decide) (by omega)
  rw [e40, e41, l44, g53]
  have tt : isLdN x = true → ((1 : Int32) = 0 ∨ (1 : Int32) = 1) ∧ K 1 σ := fun q => ⟨Or.inr rfl, by rw [q] at h; exact h⟩
  have ff : isLdN x = false → ((0 : Int32) = 0 ∨ (0 : Int32) = 1) ∧ K 0 σ := fun q => ⟨Or.inl rfl, by rw [q] at h; exact h⟩
  refine ⟨fun q => tt (by simp [isLdN, q]), fun q => ⟨fun q1 => tt (by simp [isLdN, q1]), fun q1 => ⟨fun q2 => ff ?_, fun q2 => ⟨fun q3 => ff ?_, fun q3 => tt ?_⟩⟩⟩⟩
  · simp [isLdN]; omega
  · simp [isLdN]; omega
  · simp [isLdN]; omega
theorem sp_isStore {x : Nat} {σ : zS} {K : Int32 → zS → Prop} {QX : zS → Prop} (hx : x < 256) (h : K (bI (isStN x)) σ) : zCT zZM zmX10_isStore [.int (nI x)] σ (zQi K) QX := by
  refine rX10_isStore ?_
  unfold PX10_isStore_0
  have e54 : nI x = (54 : Int32) ↔ x = 54 := nI_eq (b := 54) (by omega) (by decide)
  have e55 : nI x = (55 : Int32) ↔ x = 55 := nI_eq (b := 55) (by omega) (by decide)
  have l58 : nI x < (58 : Int32) ↔ x < 58 := nI_ltI (b := 58) (by omega) (by decide)
  have g62 : (62 : Int32) < nI x ↔ 62 < x := nI_ltI (a := 62) (by decide) (by omega)
  rw [e54, e55, l58, g62]
  have tt : isStN x = true → ((1 : Int32) = 0 ∨ (1 : Int32) = 1) ∧ K 1 σ := fun q => ⟨Or.inr rfl, by rw [q] at h; exact h⟩
  have ff : isStN x = false → ((0 : Int32) = 0 ∨ (0 : Int32) = 1) ∧ K 0 σ := fun q => ⟨Or.inl rfl, by rw [q] at h; exact h⟩
  refine ⟨fun q => tt (by simp [isStN, q]), fun q => ⟨fun q1 => tt (by simp [isStN, q1]), fun q1 => ⟨fun q2 => ff ?_, fun q2 => ⟨fun q3 => ff ?_, fun q3 => tt ?_⟩⟩⟩⟩
  · simp [isStN]; omega
  · simp [isStN]; omega
  · simp [isStN]; omega
theorem sp_fo202 {x : Nat} {σ : zS} {K : Int32 → zS → Prop} {QX : zS → Prop} (hx : x < 256) (h : K (folI (fo202 x)) σ) : PX10_follows_202 (zQi K) QX (nI x) σ := by
  unfold PX10_follows_202
  rw [fo202] at h
  have e252 : nI x = (252 : Int32) ↔ x = 252 := nI_eq (b := 252) (by omega) (by decide)
  rw [e252]
  refine ⟨fun q => ?_, fun q => ?_⟩
  · rw [if_pos q] at h; exact h
  rw [if_neg q] at h
  exact h
theorem sp_fo165 {x : Nat} {σ : zS} {K : Int32 → zS → Prop} {QX : zS → Prop} (hx : x < 256) (h : K (folI (fo165 x)) σ) : PX10_follows_165 (zQi K) QX (nI x) σ := by
  unfold PX10_follows_165
  rw [fo165] at h
  have e167 : nI x = (167 : Int32) ↔ x = 167 := nI_eq (b := 167) (by omega) (by decide)
  have e172 : nI x = (172 : Int32) ↔ x = 172 := nI_eq (b := 172) (by omega) (by decide)
  have e173 : nI x = (173 : Int32) ↔ x = 173 := nI_eq (b := 173) (by omega) (by decide)
  have l192 : nI x < (192 : Int32) ↔ x < 192 := nI_ltI (b := 192) (by omega) (by decide)
  have g196 : (196 : Int32) < nI x ↔ 196 < x := nI_ltI (a := 196) (by decide) (by omega)
  rw [e167, e172, e173, l192, g196]
  refine ⟨fun q => ?_, fun q => ?_⟩
  · rw [if_pos q] at h; exact h
  rw [if_neg q] at h
  refine ⟨fun q => ?_, fun q => ?_⟩
  · rw [if_pos q] at h; exact h
  rw [if_neg q] at h
  refine ⟨fun q => ?_, fun q => ?_⟩
  · rw [if_pos q] at h; exact h
  rw [if_neg q] at h
  refine ⟨fun q => ?_, fun q => ?_⟩
  · rw [if_pos q] at h; exact sp_fo202 hx h
  rw [if_neg q] at h
  refine ⟨fun q => ?_, fun q => ?_⟩
  · rw [if_pos q] at h; exact sp_fo202 hx h
  rw [if_neg q] at h
  exact h
theorem sp_fo152 {x : Nat} {σ : zS} {K : Int32 → zS → Prop} {QX : zS → Prop} (hx : x < 256) (h : K (folI (fo152 x)) σ) : PX10_follows_152 (zQi K) QX (nI x) σ := by
  unfold PX10_follows_152
  rw [fo152] at h
  have l103 : nI x < (103 : Int32) ↔ x < 103 := nI_ltI (b := 103) (by omega) (by decide)
  have m138 : nI x ≤ (138 : Int32) ↔ x ≤ 138 := nI_leI (b := 138) (by omega) (by decide)
  rw [l103, m138]
  refine ⟨fun q => ?_, fun q => ?_⟩
  · rw [if_pos q] at h; exact sp_fo165 hx h
  rw [if_neg q] at h
  refine ⟨fun q => ?_, fun q => ?_⟩
  · rw [if_pos q] at h; exact h
  rw [if_neg q] at h
  exact sp_fo165 hx h
theorem sp_fo75 {x : Nat} {σ : zS} {K : Int32 → zS → Prop} {QX : zS → Prop} (hx : x < 256) (h : K (folI (fo75 x)) σ) : PX10_follows_75 (zQi K) QX (nI x) σ := by
  unfold PX10_follows_75
  rw [fo75] at h
  have e14 : nI x = (14 : Int32) ↔ x = 14 := nI_eq (b := 14) (by omega) (by decide)
  have e17 : nI x = (17 : Int32) ↔ x = 17 := nI_eq (b := 17) (by omega) (by decide)
  have e63 : nI x = (63 : Int32) ↔ x = 63 := nI_eq (b := 63) (by omega) (by decide)
  have e64 : nI x = (64 : Int32) ↔ x = 64 := nI_eq (b := 64) (by omega) (by decide)
  have e65 : nI x = (65 : Int32) ↔ x = 65 := nI_eq (b := 65) (by omega) (by decide)
  have e66 : nI x = (66 : Int32) ↔ x = 66 := nI_eq (b := 66) (by omega) (by decide)
  have l69 : nI x < (69 : Int32) ↔ x < 69 := nI_ltI (b := 69) (by omega) (by decide)
  have m90 : nI x ≤ (90 : Int32) ↔ x ≤ 90 := nI_leI (b := 90) (by omega) (by decide)
  rw [e14, e17, e63, e64, e65, e66, l69, m90]
  refine ⟨fun q => ?_, fun q => ?_⟩
  · rw [if_pos q] at h; exact h
  rw [if_neg q] at h
  refine ⟨fun q => ?_, fun q => ?_⟩
  · rw [if_pos q] at h; exact h
  rw [if_neg q] at h
  refine sp_isLoad hx ?_
  rw [bI_0]
  refine ⟨fun q => ?_, fun q => ?_⟩
  · rw [if_pos q] at h
    refine sp_isStore hx ?_
    rw [bI_0]
    refine ⟨fun q => ?_, fun q => ?_⟩
    · rw [if_pos q] at h
      refine ⟨fun q => ?_, fun q => ?_⟩
      · rw [if_pos q] at h; exact h
      rw [if_neg q] at h
      refine ⟨fun q => ?_, fun q => ?_⟩
      · rw [if_pos q] at h; exact h
      rw [if_neg q] at h
      refine ⟨fun q => ?_, fun q => ?_⟩
      · rw [if_pos q] at h; exact h
      rw [if_neg q] at h
      refine ⟨fun q => ?_, fun q => ?_⟩
      · rw [if_pos q] at h; exact h
      rw [if_neg q] at h
      refine ⟨fun q => ?_, fun q => ?_⟩
      · rw [if_pos q] at h; exact sp_fo152 hx h
      rw [if_neg q] at h
      refine ⟨fun q => ?_, fun q => ?_⟩
      · rw [if_pos q] at h; exact h
      rw [if_neg q] at h
      exact sp_fo152 hx h
    · rw [if_neg q] at h; exact h
  · rw [if_neg q] at h; exact h
theorem sp_follows {x : Nat} {σ : zS} {K : Int32 → zS → Prop} {QX : zS → Prop} (hx : x < 256) (h : K (folI (mFollows x)) σ) : zCT zZM zmX10_follows [.int (nI x)] σ (zQi K) QX := by
  refine rX10_follows ?_
  unfold PX10_follows_0
  rw [← fo0_eq x hx, fo0] at h
  have e5 : nI x = (5 : Int32) ↔ x = 5 := nI_eq (b := 5) (by omega) (by decide)
  have e11 : nI x = (11 : Int32) ↔ x = 11 := nI_eq (b := 11) (by omega) (by decide)
  have e15 : nI x = (15 : Int32) ↔ x = 15 := nI_eq (b := 15) (by omega) (by decide)
  have e26 : nI x = (26 : Int32) ↔ x = 26 := nI_eq (b := 26) (by omega) (by decide)
  have e27 : nI x = (27 : Int32) ↔ x = 27 := nI_eq (b := 27) (by omega) (by decide)
  have e12 : nI x = (12 : Int32) ↔ x = 12 := nI_eq (b := 12) (by omega) (by decide)
  have e13 : nI x = (13 : Int32) ↔ x = 13 := nI_eq (b := 13) (by omega) (by decide)
  have e16 : nI x = (16 : Int32) ↔ x = 16 := nI_eq (b := 16) (by omega) (by decide)
  have m1 : nI x ≤ (1 : Int32) ↔ x ≤ 1 := nI_leI (b := 1) (by omega) (by decide)
  have g4 : (4 : Int32) < nI x ↔ 4 < x := nI_ltI (a := 4) (by decide) (by omega)
  have l32 : nI x < (32 : Int32) ↔ x < 32 := nI_ltI (b := 32) (by omega) (by decide)
  have g36 : (36 : Int32) < nI x ↔ 36 < x := nI_ltI (a := 36) (by decide) (by omega)
  rw [m1, e5, e11, e15, e26, e27, g4, e12, e13, e16, l32, g36]
  refine ⟨fun q => ?_, fun q => ?_⟩
  · rw [if_pos q] at h; exact h
  rw [if_neg q] at h
  refine ⟨fun q => ?_, fun q => ?_⟩
  · rw [if_pos q] at h; exact h
  rw [if_neg q] at h
  refine ⟨fun q => ?_, fun q => ?_⟩
  · rw [if_pos q] at h; exact h
  rw [if_neg q] at h
  refine ⟨fun q => ?_, fun q => ?_⟩
  · rw [if_pos q] at h; exact h
  rw [if_neg q] at h
  refine ⟨fun q => ?_, fun q => ?_⟩
  · rw [if_pos q] at h; exact h
  rw [if_neg q] at h
  refine ⟨fun q => ?_, fun q => ?_⟩
  · rw [if_pos q] at h; exact h
  rw [if_neg q] at h
  refine ⟨fun q => ?_, fun q => ?_⟩
  · rw [if_pos q] at h
    refine ⟨fun q => ?_, fun q => ?_⟩
    · rw [if_pos q] at h; exact h
    rw [if_neg q] at h
    refine ⟨fun q => ?_, fun q => ?_⟩
    · rw [if_pos q] at h; exact h
    rw [if_neg q] at h
    refine ⟨fun q => ?_, fun q => ?_⟩
    · rw [if_pos q] at h; exact h
    rw [if_neg q] at h
    refine ⟨fun q => ?_, fun q => ?_⟩
    · rw [if_pos q] at h; exact sp_fo75 hx h
    rw [if_neg q] at h
    refine ⟨fun q => ?_, fun q => ?_⟩
    · rw [if_pos q] at h; exact sp_fo75 hx h
    rw [if_neg q] at h
    exact h
  · rw [if_neg q] at h; exact h
/-- the rest of an instruction of number 252 behind its own number -/
theorem sp_many130 {τ σ s : zS} {B : Nat} {b : Nat → Nat} {e p n : Nat} {x : mInsT} {K : zS → Prop} {QX : zS → Prop} (hn : n < 2 ^ 35) (hs : mSt τ s B b e p) (es : s = mAt σ (B + p))
    (h : mW ((if n = 10 ∨ n = 14 then (mNeed b e 0 p).bind fun q => mNeed b e 0 q else .ok p : mE Nat).bind fun q => (.ok (x, q) : mE (mInsT × Nat))) (fun r => K (mAt σ (B + r.2))) (mEr τ B QX)) : PX10_many_130 (zQv K) QX (lN n) s := by
  unfold PX10_many_130
  have c10 : lN n = (10 : Int64) ↔ n = 10 := lN_eqB (b := 10) (by omega) (by decide)
  have c14 : lN n = (14 : Int64) ↔ n = 14 := lN_eqB (b := 14) (by omega) (by decide)
  rw [c10, c14]
  have g : n = 10 ∨ n = 14 → PX10_many_146 (zQv K) QX s := fun q => by
    rw [if_pos q, Except_bind_assoc, mW_bind] at h
    unfold PX10_many_146
    refine sp_needOctet (v := 0) hs (by decide) (mW_mono h (fun r hr h => ?_) (fun k p _ h => h))
    obtain ⟨z1, rfl, z3⟩ := mNeed_in hr
    rw [mW_bind] at h
    refine sp_needOctet (v := 0) (hs.at (by omega)) (by decide) (mW_mono h (fun r hr h => ?_) (fun k p _ h => h))
    rw [mAt_mAt, es, mAt_mAt]
    exact h
  refine ⟨fun q => g (Or.inl q), fun q => ⟨fun q2 => g (Or.inr q2), fun q2 => ?_⟩⟩
  rw [if_neg (by omega)] at h
  rw [es]
  exact h
theorem sp_many101 {τ σ s : zS} {B : Nat} {b : Nat → Nat} {e p n : Nat} {x : mInsT} {K : zS → Prop} {QX : zS → Prop} (hn : n < 2 ^ 35) (hs : mSt τ s B b e p) (es : s = mAt σ (B + p))
    (h : mW ((if n = 8 ∨ n = 11 ∨ n = 12 then mNeed b e 0 p else .ok p : mE Nat).bind fun p => (if n = 10 ∨ n = 14 then (mNeed b e 0 p).bind fun q => mNeed b e 0 q else .ok p : mE Nat).bind fun q => (.ok (x, q) : mE (mInsT × Nat))) (fun r => K (mAt σ (B + r.2))) (mEr τ B QX)) : PX10_many_101 (zQv K) QX (lN n) s := by
  unfold PX10_many_101
  have c8 : lN n = (8 : Int64) ↔ n = 8 := lN_eqB (b := 8) (by omega) (by decide)
  have c11 : lN n = (11 : Int64) ↔ n = 11 := lN_eqB (b := 11) (by omega) (by decide)
  have c12 : lN n = (12 : Int64) ↔ n = 12 := lN_eqB (b := 12) (by omega) (by decide)
  rw [c8, c11, c12]
  rw [mW_bind] at h
  have g : n = 8 ∨ n = 11 ∨ n = 12 → PX10_many_125 (zQv K) QX (lN n) s := fun q => by
    rw [if_pos q] at h
    unfold PX10_many_125
    refine sp_needOctet (v := 0) hs (by decide) (mW_mono h (fun r hr h => ?_) (fun k p _ h => h))
    obtain ⟨z1, rfl, z3⟩ := mNeed_in hr
    exact sp_many130 hn (hs.at (by omega)) (by rw [es, mAt_mAt]) h
  refine ⟨fun q => g (Or.inl q), fun q => ⟨fun q2 => g (Or.inr (Or.inl q2)), fun q2 => ⟨fun q3 => g (Or.inr (Or.inr q3)), fun q3 => ?_⟩⟩⟩
  rw [if_neg (by omega), mW_ok] at h
  exact sp_many130 hn hs es h
theorem sp_many63 {τ σ s : zS} {B : Nat} {b : Nat → Nat} {e p n : Nat} {K : zS → Prop} {QX : zS → Prop} (hn : n < 2 ^ 35) (hs : mSt τ s B b e p) (es : s = mAt σ (B + p))
    (h : mW ((if n = 8 ∨ n = 9 ∨ n = 12 ∨ n = 13 then mU b e p else .ok (0, p)).bind fun u => (if n = 8 ∨ n = 11 ∨ n = 12 then mNeed b e 0 u.2 else .ok u.2 : mE Nat).bind fun p => (if n = 10 ∨ n = 14 then (mNeed b e 0 p).bind fun q => mNeed b e 0 q else .ok p : mE Nat).bind fun q => (.ok ((256 + n, u.1, []), q) : mE (mInsT × Nat))) (fun r => K (mAt σ (B + r.2))) (mEr τ B QX)) : PX10_many_63 (zQv K) QX (lN n) s := by
  unfold PX10_many_63
  have c8 : lN n = (8 : Int64) ↔ n = 8 := lN_eqB (b := 8) (by omega) (by decide)
  have c9 : lN n = (9 : Int64) ↔ n = 9 := lN_eqB (b := 9) (by omega) (by decide)
  have c12 : lN n = (12 : Int64) ↔ n = 12 := lN_eqB (b := 12) (by omega) (by decide)
  have c13 : lN n = (13 : Int64) ↔ n = 13 := lN_eqB (b := 13) (by omega) (by decide)
  rw [c8, c9, c12, c13]
  rw [mW_bind] at h
  have g : n = 8 ∨ n = 9 ∨ n = 12 ∨ n = 13 → PX10_many_95 (zQv K) QX (lN n) s := fun q => by
    rw [if_pos q] at h
    unfold PX10_many_95
    refine sp_u hs (mW_mono h (fun u hu h => ?_) (fun k p _ h => h))
    have u1 := mU_in hu hs.2.2.2.2.1
    exact sp_many101 hn (hs.at u1.2) (by rw [es, mAt_mAt]) h
  refine ⟨fun q => g (Or.inl q), fun q => ⟨fun q2 => g (Or.inr (Or.inl q2)), fun q2 => ⟨fun q3 => g (Or.inr (Or.inr (Or.inl q3))), fun q3 => ⟨fun q4 => g (Or.inr (Or.inr (Or.inr q4))), fun q4 => ?_⟩⟩⟩⟩
  rw [if_neg (by omega), mW_ok] at h
  exact sp_many101 hn hs es h
theorem sp_many {τ σ : zS} {B : Nat} {b : Nat → Nat} {e fr a : Nat} {hc : Bool} {K : zS → Prop} {QX : zS → Prop} (hs : mSt τ σ B b e a) (hcs : σ.1 0 18 = bI hc)
    (h : mW ((mU b e a).bind fun n =>
    if n.1 < 8 ∨ 14 < n.1 then .error (1, a)
    else if (n.1 = 8 ∨ n.1 = 9) ∧ hc = false then .error (1, fr)
    else (if n.1 = 8 ∨ n.1 = 9 ∨ n.1 = 12 ∨ n.1 = 13 then mU b e n.2 else .ok (0, n.2)).bind fun u =>
      (if n.1 = 8 ∨ n.1 = 11 ∨ n.1 = 12 then mNeed b e 0 u.2 else .ok u.2 : mE Nat).bind fun p =>
      (if n.1 = 10 ∨ n.1 = 14 then (mNeed b e 0 p).bind fun q => mNeed b e 0 q else .ok p : mE Nat).bind fun q => (.ok ((256 + n.1, u.1, []), q) : mE (mInsT × Nat))) (fun r => K (mAt σ (B + r.2))) (mEr τ B QX)) : zCT zZM zmX10_many [.ref 0, .int (nI (B + fr))] σ (zQv K) QX := by
  refine rX10_many ?_
  unfold PX10_many_0
  rw [mW_bind] at h
  refine sp_u hs (mW_mono h (fun u hu h => ?_) (fun k p _ h => h))
  have u1 := mU_in hu hs.2.2.2.2.1
  have u2 := mU_lt hu
  have h1 : mSt τ (mAt σ (B + u.2)) B b e u.2 := hs.at u1.2
  have l8 : lN u.1 < (8 : Int64) ↔ u.1 < 8 := pk_lLT (b := 8) (by omega) (by decide)
  have m14 : lN u.1 ≤ (14 : Int64) ↔ u.1 ≤ 14 := lN_leB (b := 14) (by omega) (by decide)
  have c8 : lN u.1 = (8 : Int64) ↔ u.1 = 8 := lN_eqB (b := 8) (by omega) (by decide)
  have c9 : lN u.1 = (9 : Int64) ↔ u.1 = 9 := lN_eqB (b := 9) (by omega) (by decide)
  rw [l8, m14, c8, c9, hs.2.2.1]
  rw [mW_ite] at h
  have bad : u.1 < 8 ∨ 14 < u.1 → PX10_many_26 (zQv K) QX (nI (B + a)) (mAt σ (B + u.2)) := fun q => by
    rw [if_pos q] at h
    unfold PX10_many_26
    exact sp_throw (k := 1) h1.1 h
  refine ⟨fun q => bad (Or.inl q), fun q => ⟨fun q2 => ?_, fun q2 => bad (by omega)⟩⟩
  rw [if_neg (by omega), mW_ite] at h
  have hb18 : (mAt σ (B + u.2)).1 0 18 = bI hc := by rw [mAt, zI1, if_neg (by omega)]; exact hcs
  have mid : u.1 = 8 ∨ u.1 = 9 → PX10_many_49 (zQv K) QX (nI (B + fr)) (lN u.1) (mAt σ (B + u.2)) := fun q3 => by
    unfold PX10_many_49
    rw [hb18, bI_0]
    refine ⟨fun qc => ?_, fun qc => ?_⟩
    · rw [if_pos ⟨q3, qc⟩] at h
      exact sp_throw (k := 1) h1.1 h
    · rw [if_neg (fun z => qc z.2)] at h
      exact sp_many63 u2 h1 rfl h
  refine ⟨fun q3 => mid (Or.inl q3), fun q3 => ⟨fun q4 => mid (Or.inr q4), fun q4 => ?_⟩⟩
  rw [if_neg (fun z => by omega)] at h
  exact sp_many63 u2 h1 rfl h
/-- what follows an instruction's first byte, read over -/
theorem sp_operands {τ σ : zS} {B : Nat} {b : Nat → Nat} {e op fr a : Nat} {hc : Bool} {K : zS → Prop} {QX : zS → Prop} (hs : mSt τ σ B b e a) (hcs : σ.1 0 18 = bI hc) (hop : op < 256)
    (h : mW (mOps b e hc op fr a) (fun r => K (mAt σ (B + r.2))) (mEr τ B QX)) : zCT zZM zmX10_operands [.ref 0, .int (nI op), .int (nI (B + fr))] σ (zQv K) QX := by
  obtain ⟨hk, hb, hat, hen, hae, he, hB⟩ := id hs
  refine rX10_operands (fun m x6 x8 s => ∃ (N j p : Nat) (lst : List Nat), m + j = N + 1 ∧ N ≤ 256 ∧ x6 = lN N ∧ x8 = nI j ∧ mSt τ s B b e p ∧ s = mAt σ (B + p) ∧
      mW ((mRow (mU b e) none m lst p).bind fun l => (.ok ((op, 0, l.1), l.2) : mE (mInsT × Nat))) (fun r => K (mAt σ (B + r.2))) (mEr τ B QX)) ?_ ?_
  · rintro m x6 x8 s ⟨N, j, p, lst, hm, hN, rfl, rfl, hs', rfl, hw⟩
    unfold PX10_operands_146
    have c1 : lN N < (nI j).toInt64 ↔ N < j := by rw [nI_l (by omega)]; exact pk_lLT (by omega) (by omega)
    rw [c1]
    refine ⟨fun q => ?_, fun q => ?_⟩
    · have : m = 0 := by omega
      subst this
      exact hw
    · obtain ⟨m', rfl⟩ : ∃ z, m = z + 1 := ⟨m - 1, by omega⟩
      rw [mRowS, if_neg (by simp), Except_bind_assoc, mW_bind] at hw
      refine sp_u hs' (mW_mono hw (fun u hu hw => ?_) (fun k p _ h => h))
      have u1 := mU_in hu hs'.2.2.2.2.1
      exact ⟨m', Nat.lt_succ_self m', N, j + 1, u.2, lst ++ [u.1], by omega, hN, rfl, nI_1 j, hs'.at u1.2, mAt_mAt _ _ _, hw⟩
  · unfold PX10_operands_0
    refine sp_follows hop ?_
    have hf := mFollows_le op hop
    have c := fun k (hk : k ≤ 9) => folI_eq (mFollows op) hf k hk
    have cs : (folI (mFollows op) = 0 ↔ mFollows op = 0) ∧ (folI (mFollows op) = 1 ↔ mFollows op = 1) ∧ (folI (mFollows op) = 2 ↔ mFollows op = 2) ∧ (folI (mFollows op) = 3 ↔ mFollows op = 3) ∧ (folI (mFollows op) = 4 ↔ mFollows op = 4) ∧ (folI (mFollows op) = 5 ↔ mFollows op = 5) ∧ (folI (mFollows op) = 6 ↔ mFollows op = 6) ∧ (folI (mFollows op) = 7 ↔ mFollows op = 7) ∧ (folI (mFollows op) = 8 ↔ mFollows op = 8) ∧ (folI (mFollows op) = 9 ↔ mFollows op = 9) :=
      ⟨c 0 (by decide), c 1 (by decide), c 2 (by decide), c 3 (by decide), c 4 (by decide), c 5 (by decide), c 6 (by decide), c 7 (by decide), c 8 (by decide), c 9 (by decide)⟩
    obtain ⟨c0, c1, c2, c3, c4, c5, c6, c7, c8, c9⟩ := cs
    rw [c0, c1, c2, c3, c4, c5, c6, c7, c8, c9]
    unfold mOps at h
    have ok0 : σ = mAt σ (B + a) := by
      refine Prod.ext ?_ rfl
      funext x j
      show _ = (zsI σ 0 12 _).1 x j
      rw [zI1]
      split
      · rename_i q; rw [q.1, q.2]; exact hat
      · rfl
    refine ⟨fun q => ?_, fun q => ?_⟩
    · rw [if_pos q] at h; rw [ok0]; exact h
    rw [if_neg q] at h
    refine ⟨fun q => ?_, fun q => ?_⟩
    · rw [if_pos q, mW_bind] at h
      exact sp_blockType hs h
    rw [if_neg q] at h
    refine ⟨fun q => ?_, fun q => ?_⟩
    · rw [if_pos q, mW_bind] at h
      exact sp_u hs h
    rw [if_neg q] at h
    refine ⟨fun q => ?_, fun q => ?_⟩
    · rw [if_pos q, mW_bind] at h
      exact sp_s hs (mW_mono h (fun r hr h x => h) (fun k p _ h => h))
    rw [if_neg q] at h
    refine ⟨fun q => ?_, fun q => ?_⟩
    · rw [if_pos q, mW_bind] at h
      exact sp_l hs (mW_mono h (fun r hr h x => h) (fun k p _ h => h))
    rw [if_neg q] at h
    refine ⟨fun q => ?_, fun q => ?_⟩
    · rw [if_pos q, mW_bind] at h
      refine sp_u hs (mW_mono h (fun u hu h => ?_) (fun k p _ h => h))
      have u1 := mU_in hu hae
      rw [mW_bind] at h
      refine sp_u (hs.at u1.2) (mW_mono h (fun v hv h => ?_) (fun k p _ h => h))
      rw [mAt_mAt]; exact h
    rw [if_neg q] at h
    refine ⟨fun q => ?_, fun q => ?_⟩
    · rw [if_pos q, mW_bind] at h
      refine sp_u hs (mW_mono h (fun u hu h => ?_) (fun k p _ h => h))
      have u1 := mU_in hu hae
      rw [mW_bind] at h
      refine sp_needOctet (v := 0) (hs.at u1.2) (by decide) (mW_mono h (fun v hv h => ?_) (fun k p _ h => h))
      rw [mAt_mAt]; exact h
    rw [if_neg q] at h
    refine ⟨fun q => ?_, fun q => ?_⟩
    · rw [if_pos q, mW_bind] at h
      exact sp_needOctet (v := 0) hs (by decide) h
    rw [if_neg q] at h
    refine ⟨fun q => ?_, fun q => ?_⟩
    · rw [if_pos q, mW_bind] at h
      refine sp_u hs (mW_mono h (fun u hu h => ?_) (fun k p _ h => h))
      have u1 := mU_in hu hae
      have u2 := mU_lt hu
      have c256 : lN u.1 ≤ (256 : Int64) ↔ u.1 ≤ 256 := lN_leB (b := 256) (by omega) (by decide)
      rw [c256, hat]
      rw [mW_ite] at h
      refine ⟨fun q2 => ?_, fun q2 => ?_⟩
      · rw [if_neg (show ¬ 256 < u.1 by omega)] at h
        exact ⟨u.1 + 1, trivial, u.1, 0, u.2, [], rfl, q2, rfl, rfl, hs.at u1.2, rfl, h⟩
      · rw [if_pos (by omega)] at h
        exact sp_throw (k := 4) (hs.at u1.2).1 h
    rw [if_neg q] at h
    refine ⟨fun q => ?_, fun q => ?_⟩
    · rw [if_pos q] at h
      exact sp_many hs hcs h
    rw [if_neg q] at h
    exact sp_throw (k := 1) hk h
