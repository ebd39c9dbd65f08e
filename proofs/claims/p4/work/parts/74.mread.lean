/-! the reference reads a module -/
def hdr (k : Nat) : Nat := if k = 1 then 97 else if k = 2 then 115 else if k = 3 then 109 else if k = 4 then 1 else 0
theorem sp_headerAt {k : Nat} {σ : zS} {K : Int32 → zS → Prop} {QX : zS → Prop} (hk : k < 8) (h : K (nI (hdr k)) σ) : zCT zZM zmX10_headerAt [.int (nI k)] σ (zQi K) QX := by
  refine rX10_headerAt ?_
  unfold PX10_headerAt_0
  have c1 : nI k = (1 : Int32) ↔ k = 1 := nI_eq (b := 1) (by omega) (by decide)
  have c2 : nI k = (2 : Int32) ↔ k = 2 := nI_eq (b := 2) (by omega) (by decide)
  have c3 : nI k = (3 : Int32) ↔ k = 3 := nI_eq (b := 3) (by omega) (by decide)
  have c4 : nI k = (4 : Int32) ↔ k = 4 := nI_eq (b := 4) (by omega) (by decide)
  rw [c1, c2, c3, c4]
  unfold hdr at h
  refine ⟨fun q => by rw [if_pos q] at h; exact h, fun q => ?_⟩
  rw [if_neg q] at h
  refine ⟨fun q => by rw [if_pos q] at h; exact h, fun q => ?_⟩
  rw [if_neg q] at h
  refine ⟨fun q => by rw [if_pos q] at h; exact h, fun q => ?_⟩
  rw [if_neg q] at h
  refine ⟨fun q => by rw [if_pos q] at h; exact h, fun q => ?_⟩
  rw [if_neg q] at h
  exact h
theorem hdr_lt : ∀ k, k < 8 → hdr k < 256 := by decide +kernel
theorem mOrd_f : ∀ id, id < 256 → mOrd id ≤ 12 ∧ (¬ mOrd id = 0 → 1 ≤ id ∧ id ≤ 12) ∧ (id = 4 → mOrd id = 4) ∧ (id = 5 → mOrd id = 5) ∧ (id = 10 → mOrd id = 11) ∧ (id = 11 → mOrd id = 12) ∧ (mOrd id = 12 → id = 11) := by decide +kernel
theorem ord_lt : ∀ x, x ≤ 12 → ∀ y, y ≤ 12 → (nI x - (1 : Int32) < nI y - (1 : Int32) ↔ x < y) := by decide +kernel
theorem mSec_keep {b : Nat → Nat} {e id : Nat} {A : mA} {a : Nat} : mW (mSec b e id A a) (fun r => (¬ id = 3 → aF r.1 = aF A) ∧ (¬ id = 4 → aT r.1 = aT A) ∧ (¬ id = 5 → aM r.1 = aM A) ∧ (¬ id = 10 → aD r.1 = aD A) ∧ ((1 ≤ id ∧ id ≤ 10) ∨ id = 12 → aZ r.1 = aZ A) ∧ (¬ id = 12 → aC r.1 = aC A)) mTr := by
  have t : ∀ {x : Nat → mE (mA × Nat)} {P : mA × Nat → Prop} {y : mE (Nat × Nat)}, (∀ u : Nat × Nat, mW (x u.1) P mTr) → mW (y.bind fun u => x u.1) P mTr := fun h => by
    rw [mW_bind]; exact mW_in fun u _ => h u
  by_cases h8 : id = 8
  · unfold mSec
    rw [if_pos h8, mW_bind]
    exact mW_in fun u _ => ⟨fun _ => rfl, fun _ => rfl, fun _ => rfl, fun _ => rfl, fun _ => rfl, fun _ => rfl⟩
  by_cases h12 : id = 12
  · unfold mSec
    rw [if_neg h8, if_pos h12, mW_bind]
    exact mW_in fun u _ => ⟨fun _ => rfl, fun _ => rfl, fun _ => rfl, fun _ => rfl, fun _ => rfl, fun z => absurd h12 z⟩
  rw [mSec_rest h8 h12, mW_bind]
  refine mW_in fun u _ => ?_
  by_cases q1 : id = 1
  · subst q1; rw [mRest_1, mW_bind]; exact mW_in fun _ _ => ⟨fun _ => rfl, fun _ => rfl, fun _ => rfl, fun _ => rfl, fun _ => rfl, fun _ => rfl⟩
  by_cases q2 : id = 2
  · subst q2; rw [mRest_2, mW_bind]; exact mW_in fun _ _ => ⟨fun _ => rfl, fun _ => rfl, fun _ => rfl, fun _ => rfl, fun _ => rfl, fun _ => rfl⟩
  by_cases q3 : id = 3
  · subst q3; rw [mRest_3, mW_bind]; exact mW_in fun _ _ => ⟨fun z => absurd rfl z, fun _ => rfl, fun _ => rfl, fun _ => rfl, fun _ => rfl, fun _ => rfl⟩
  by_cases q4 : id = 4
  · subst q4; rw [mRest_4, mW_bind]; exact mW_in fun _ _ => ⟨fun _ => rfl, fun z => absurd rfl z, fun _ => rfl, fun _ => rfl, fun _ => rfl, fun _ => rfl⟩
  by_cases q5 : id = 5
  · subst q5; rw [mRest_5, mW_bind]; exact mW_in fun _ _ => ⟨fun _ => rfl, fun _ => rfl, fun z => absurd rfl z, fun _ => rfl, fun _ => rfl, fun _ => rfl⟩
  by_cases q6 : id = 6
  · subst q6; rw [mRest_6, mW_bind]; exact mW_in fun _ _ => ⟨fun _ => rfl, fun _ => rfl, fun _ => rfl, fun _ => rfl, fun _ => rfl, fun _ => rfl⟩
  by_cases q7 : id = 7
  · subst q7; rw [mRest_7, mW_bind]; exact mW_in fun _ _ => ⟨fun _ => rfl, fun _ => rfl, fun _ => rfl, fun _ => rfl, fun _ => rfl, fun _ => rfl⟩
  by_cases q9 : id = 9
  · subst q9; rw [mRest_9, mW_bind]; exact mW_in fun _ _ => ⟨fun _ => rfl, fun _ => rfl, fun _ => rfl, fun _ => rfl, fun _ => rfl, fun _ => rfl⟩
  by_cases q10 : id = 10
  · subst q10; rw [mRest_10, mW_bind]; exact mW_in fun _ _ => ⟨fun _ => rfl, fun _ => rfl, fun _ => rfl, fun z => absurd rfl z, fun _ => rfl, fun _ => rfl⟩
  unfold mRest
  rw [if_neg q1, if_neg q2, if_neg q3, if_neg q4, if_neg q5, if_neg q6, if_neg q7, if_neg q9, if_neg q10, mW_bind]
  exact mW_in fun _ _ => ⟨fun _ => rfl, fun _ => rfl, fun _ => rfl, fun _ => rfl, fun z => by omega, fun _ => rfl⟩
/-- what holds between two sections -/
def sInv (last : Nat) (A : mA) (bd dt : Bool) : Prop := (last < 4 → aT A = []) ∧ (last < 5 → aM A = []) ∧ (bd = false → aD A = []) ∧ (last < 11 → bd = false) ∧ (bd = true → mNoFit A 10 = false) ∧ (dt = false → aZ A = []) ∧ (last < 12 → dt = false) ∧ (dt = true → mNoFit A 11 = false)
theorem noFit10 (A : mA) : mNoFit A 10 = !decide ((aD A).length = (aF A).length) := by
  unfold mNoFit
  simp
theorem noFit11 (A : mA) : mNoFit A 11 = (match aC A with
  | some n => !decide ((aZ A).length = n)
  | none => false) := by
  unfold mNoFit
  cases aC A <;> simp
theorem sInv_step {b : Nat → Nat} {e id last a : Nat} {A : mA} {bd dt : Bool} {r : mA × Nat} (hid : id < 256) (hl : last < mOrd id) (hi : sInv last A bd dt) (h : mSec b e id A a = .ok r) (hf : mNoFit r.1 id = false) : sInv (mOrd id) r.1 (bd || decide (id = 10)) (dt || decide (id = 11)) := by
  obtain ⟨o1, o2, o4, o5, o10, o11, o12⟩ := mOrd_f id hid
  have ho := o2 (by omega)
  obtain ⟨kF, kT, kM, kD, kZ, kC⟩ := mW_get mSec_keep h
  obtain ⟨i1, i2, i3, i4, i5, i6, i7, i8⟩ := hi
  refine ⟨fun q => ?_, fun q => ?_, fun q => ?_, fun q => ?_, fun q => ?_, fun q => ?_, fun q => ?_, fun q => ?_⟩
  · rw [kT (fun z => by have := o4 z; omega)]; exact i1 (by omega)
  · rw [kM (fun z => by have := o5 z; omega)]; exact i2 (by omega)
  · have q1 : bd = false ∧ ¬ id = 10 := by simpa using q
    rw [kD q1.2]; exact i3 q1.1
  · have : ¬ id = 10 := fun z => by have := o10 z; omega
    simp [this, i4 (by omega)]
  · by_cases h10 : id = 10
    · rw [h10] at hf; exact hf
    · have hb : bd = true := by simpa [h10] using q
      have hl11 : ¬ last < 11 := fun z => by have := i4 z; rw [hb] at this; cases this
      have h11 : id = 11 := o12 (by omega)
      rw [noFit10, kF (by omega), kD h10, ← noFit10]
      exact i5 hb
  · have q1 : dt = false ∧ ¬ id = 11 := by simpa using q
    rw [kZ (by omega)]; exact i6 q1.1
  · have : ¬ id = 11 := fun z => by have := o11 z; omega
    simp [this, i7 (by omega)]
  · by_cases h11 : id = 11
    · rw [h11] at hf; exact hf
    · have hb : dt = true := by simpa [h11] using q
      have hl12 : ¬ last < 12 := fun z => by have := i7 z; rw [hb] at this; cases this
      omega
theorem mSecsS (b : Nat → Nat) (e f last : Nat) (A : mA) (a : Nat) : mSecs b e (f + 1) last A a = if ¬ a < e then (if mNoFit A 10 = true ∨ mNoFit A 11 = true then .error (1, e) else .ok A)
    else if ¬ b a = 0 ∧ mOrd (b a) ≤ last then .error (1, a)
    else (mU b e (a + 1)).bind fun z =>
      if e - z.2 < z.1 then .error (1, a + 1)
      else (if b a = 0 then (mName b (z.2 + z.1) false z.2).bind fun _ => .ok (A, z.2 + z.1) else mSec b (z.2 + z.1) (b a) A z.2).bind fun r =>
        if r.2 < z.2 + z.1 then .error (1, r.2)
        else if mNoFit r.1 (b a) = true then .error (1, z.2 + z.1) else mSecs b e f (if b a = 0 then last else mOrd (b a)) r.1 (z.2 + z.1) := rfl
theorem mRep_mF {σ σ' : zS} {B : Nat} {A : mA} (h : mRep σ B A) (f : mF 99 σ σ') : mRep σ' B A := by
  exact ⟨r1_q h.1 (f.q (by decide) (by decide)), r2_q h.2.1 (f.q (by decide) (by decide)), r3_q h.2.2.1 (f.q (by decide) (by decide)), r4_q h.2.2.2.1 (f.q (by decide) (by decide)), r5_q h.2.2.2.2.1 (f.q (by decide) (by decide)), r6_q h.2.2.2.2.2.1 (f.q (by decide) (by decide)), r7_q h.2.2.2.2.2.2.1 (f.q (by decide) (by decide)), r8_q h.2.2.2.2.2.2.2.1 (f.q (by decide) (by decide)), r9_q h.2.2.2.2.2.2.2.2.1 (f.q (by decide) (by decide)), r12_q h.2.2.2.2.2.2.2.2.2.1 (f.q (by decide) (by decide)), r10_q h.2.2.2.2.2.2.2.2.2.2.1 (f.q (by decide) (by decide)), r11_q h.2.2.2.2.2.2.2.2.2.2.2 (f.q (by decide) (by decide))⟩
