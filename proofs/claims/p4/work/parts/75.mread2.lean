/-! the reference's read against the mathematics -/
def toldN (o : Option Nat) : Nat := match o with
  | some n => n
  | none => 0
theorem mRep_19 {σ : zS} {B : Nat} {A : mA} (h : mRep σ B A) : σ.2 0 19 = lN (toldN (aC A)) ∧ toldN (aC A) < 2 ^ 35 := by
  have q := h.2.2.2.2.2.2.2.2.2.1
  cases hc : aC A with
  | none => rw [hc] at q; exact ⟨q.2, by decide⟩
  | some x => rw [hc] at q; exact ⟨q.2.2, q.2.1⟩
theorem mRep_F {σ : zS} {B : Nat} {A : mA} (h : mRep σ B A) : σ.1 1 4 = nI (aF A).length ∧ (aF A).length ≤ 64 := ⟨h.2.2.1.1, h.2.2.1.2.1⟩
theorem mRep_D {σ : zS} {B : Nat} {A : mA} (h : mRep σ B A) : σ.1 1 9 = nI (aD A).length ∧ (aD A).length ≤ 16000 := ⟨h.2.2.2.2.2.2.2.2.2.2.1.1, h.2.2.2.2.2.2.2.2.2.2.1.2.1⟩
theorem mRep_Z {σ : zS} {B : Nat} {A : mA} (h : mRep σ B A) : σ.1 1 8 = nI (aZ A).length ∧ (aZ A).length ≤ 32 := ⟨h.2.2.2.2.2.2.2.2.2.2.2.1, h.2.2.2.2.2.2.2.2.2.2.2.2.1⟩
/-- what the loop over sections holds -/
def rI130 (τ : zS) (B : Nat) (b : Nat → Nat) (e : Nat) (K : zS → Prop) (QX : zS → Prop) (m : Nat) (x2 x3 x4 : Int32) (s : zS) : Prop := ∃ (last : Nat) (A : mA) (p : Nat) (bd dt : Bool), x2 = nI last - (1 : Int32) ∧ last ≤ 12 ∧ x3 = bI bd ∧ x4 = bI dt ∧ e + 1 ≤ m + p ∧ m ≤ e + 1 ∧ mSt τ s B b e p ∧ mRep s B A ∧ sInv last A bd dt ∧
  mW (mSecs b e m last A p) (fun A => ∀ σ', mSt τ σ' B b e e → mRep σ' B A → K σ') (mEr τ B QX)
/-- behind a section -/
theorem sp_read267 {τ s : zS} {B : Nat} {b : Nat → Nat} {e e1 q nl id f : Nat} {A : mA} {bd dt : Bool} {K : zS → Prop} {QX : zS → Prop} {K57 K103 : Int32 → zS → Prop} {K130 : Int32 → Int32 → Int32 → zS → Prop}
    (h1 : τ.1 1 1 = nI (B + e)) (he : e ≤ 16000) (hid : id < 256) (hnl : nl ≤ 12) (hs : mSt τ s B b e1 q) (hrep : mRep s B A) (hee : e1 ≤ e) (hfe : e + 1 ≤ f + e1) (hf : f ≤ e + 1)
    (hK : ∀ x2 x3 x4 σ, rI130 τ B b e K QX f x2 x3 x4 σ → K130 x2 x3 x4 σ)
    (hinv : mNoFit A id = false → sInv nl A (bd || decide (id = 10)) (dt || decide (id = 11)))
    (h : mW (if q < e1 then .error (1, q) else if mNoFit A id = true then .error (1, e1) else mSecs b e f nl A e1) (fun A => ∀ σ', mSt τ σ' B b e e → mRep σ' B A → K σ') (mEr τ B QX)) : PX10_read_267 K57 K103 K130 (zQv K) QX (nI nl - (1 : Int32)) (bI bd) (bI dt) (nI id) s := by
  have hqe := hs.2.2.2.2.1
  unfold PX10_read_267
  have c1 : nI (B + e1) ≤ nI (B + q) ↔ e1 ≤ q := by have := hs.2.2.2.2.2.2; rw [nI_leI (by omega) (by omega)]; omega
  have c10 : nI id = (10 : Int32) ↔ id = 10 := nI_eq (b := 10) (by omega) (by decide)
  have c11 : nI id = (11 : Int32) ↔ id = 11 := nI_eq (b := 11) (by omega) (by decide)
  rw [hs.2.2.2.1, hs.2.2.1, c1, c10]
  rw [mW_ite] at h
  refine ⟨fun qe => ?_, fun qe => ?_⟩
  · rw [if_neg (by omega), mW_ite] at h
    have hD := mRep_D hrep
    have hF := mRep_F hrep
    have hZ := mRep_Z hrep
    have hT := mRep_19 hrep
    have h18 := mRep_18 hrep
    have w333 : mNoFit A id = true → PX10_read_333 K57 K103 K130 (zQv K) QX s := fun z => by
      rw [if_pos z] at h
      unfold PX10_read_333
      rw [hs.2.2.2.1]
      exact sp_throw (k := 1) hs.1 h
    have g11 : s.1 1 1 = nI (B + e) := by rw [(hs.1 1 1 (by unfold kpd; omega)).1]; exact h1
    have w343 : mNoFit A id = false → PX10_read_343 K57 K103 K130 (zQv K) QX (nI nl - (1 : Int32)) (bI bd) (bI dt) (nI id) s := fun z => by
      rw [if_neg (by rw [z]; decide)] at h
      have fin : ∀ (x3 x4 : Int32), x3 = bI (bd || decide (id = 10)) → x4 = bI (dt || decide (id = 11)) → ∀ s9, s9 = zsI s 0 13 (s.1 1 1) → K130 (nI nl - (1 : Int32)) x3 x4 s9 := fun x3 x4 e3 e4 s9 e9 => by
        rw [g11] at e9
        refine hK _ _ _ _ ⟨nl, A, e1, _, _, rfl, hnl, e3, e4, hfe, hf, ?_, ?_, hinv z, h⟩
        · rw [e9]
          have hq : q = e1 := by omega
          rw [hq] at hs
          exact hs.end hee he
        · rw [e9]; exact mRep_mF hrep (mF.rf.i _ (Or.inl rfl))
      have w354 : (bd || decide (id = 10)) = true → PX10_read_354 K57 K103 K130 (zQv K) QX (nI nl - (1 : Int32)) (bI dt) (nI id) s := fun y => by
        unfold PX10_read_354
        rw [c11, bI_0]
        refine ⟨fun q1 => ⟨fun q2 => fin _ _ (by rw [y]; rfl) (by rw [q2, q1]; rfl), fun q2 => fin _ _ (by rw [y]; rfl) (by simp [q1, q2, bI])⟩, fun q1 => fin _ _ (by rw [y]; rfl) ?_⟩
        have : dt = true := by cases dt <;> simp_all
        rw [this]; rfl
      unfold PX10_read_343
      rw [c10, c11, bI_0, bI_0]
      refine ⟨fun q1 => ⟨fun q2 => w354 (by simp [q2]), fun q2 => ⟨fun q3 => ⟨fun q4 => fin _ _ (by simp [q1, q2, bI]) (by rw [q4, q3]; rfl), fun q4 => fin _ _ (by simp [q1, q2, bI]) (by simp [q3, q4, bI])⟩, fun q3 => fin _ _ (by simp [q1, q2, bI]) ?_⟩⟩, fun q1 => w354 ?_⟩
      · have : dt = true := by cases dt <;> simp_all
        rw [this]; rfl
      · have : bd = true := by cases bd <;> simp_all
        rw [this]; rfl
    have w306 : (id = 10 → mNoFit A id = false) → PX10_read_306 K57 K103 K130 (zQv K) QX (nI nl - (1 : Int32)) (bI bd) (bI dt) (nI id) s := fun z => by
      unfold PX10_read_306
      have ct : (s.1 1 8).toInt64 = s.2 0 19 ↔ (aZ A).length = toldN (aC A) := by rw [hZ.1, hT.1, nI_l (by omega)]; exact lN_eqB (by omega) (by have := hT.2; omega)
      rw [c11, h18, bI_0, ct]
      refine ⟨fun q1 => ⟨fun q2 => w343 ?_, fun q2 => ⟨fun q3 => w343 ?_, fun q3 => w333 ?_⟩⟩, fun q1 => w343 ?_⟩
      · rw [q1, noFit11]
        cases hc : aC A with
        | none => rfl
        | some n => rw [hc] at q2; cases q2
      · rw [q1, noFit11]
        cases hc : aC A with
        | none => rfl
        | some n => rw [hc] at q3; simpa [toldN] using q3
      · rw [q1, noFit11]
        cases hc : aC A with
        | none => rw [hc] at q2; exact absurd rfl q2
        | some n => rw [hc] at q3; simpa [toldN] using q3
      · by_cases y : id = 10
        · exact z y
        · unfold mNoFit; simp [y, q1]
    have cd : s.1 1 9 = s.1 1 4 ↔ (aD A).length = (aF A).length := by rw [hD.1, hF.1]; exact nI_eq (by omega) (by omega)
    rw [cd]
    refine ⟨fun q1 => ⟨fun q2 => w306 (fun _ => ?_), fun q2 => w333 ?_⟩, fun q1 => w306 (fun z => absurd z q1)⟩
    · rw [q1, noFit10]; simp [q2]
    · rw [q1, noFit10]; simp [q2]
  · rw [if_pos (by omega)] at h
    exact sp_throw (k := 1) hs.1 h
/-- a section behind its number -/
theorem sp_read188 {τ s : zS} {B : Nat} {b : Nat → Nat} {e p last f : Nat} {A : mA} {bd dt : Bool} {K : zS → Prop} {QX : zS → Prop} {K57 K103 : Int32 → zS → Prop} {K130 : Int32 → Int32 → Int32 → zS → Prop}
    (h1 : τ.1 1 1 = nI (B + e)) (hs : mSt τ s B b e (p + 1)) (hrep : mRep s B A) (hfe : e + 1 ≤ f + 1 + p) (hf : f ≤ e + 1) (hl : last ≤ 12) (hinv : sInv last A bd dt) (hid : b p < 256) (hgo : ¬ (¬ b p = 0 ∧ mOrd (b p) ≤ last))
    (hK : ∀ x2 x3 x4 σ, rI130 τ B b e K QX f x2 x3 x4 σ → K130 x2 x3 x4 σ)
    (h : mW ((mU b e (p + 1)).bind fun z =>
      if e - z.2 < z.1 then .error (1, p + 1)
      else (if b p = 0 then (mName b (z.2 + z.1) false z.2).bind fun _ => .ok (A, z.2 + z.1) else mSec b (z.2 + z.1) (b p) A z.2).bind fun r =>
        if r.2 < z.2 + z.1 then .error (1, r.2)
        else if mNoFit r.1 (b p) = true then .error (1, z.2 + z.1) else mSecs b e f (if b p = 0 then last else mOrd (b p)) r.1 (z.2 + z.1)) (fun A => ∀ σ', mSt τ σ' B b e e → mRep σ' B A → K σ') (mEr τ B QX)) :
    PX10_read_188 K57 K103 K130 (zQv K) QX (bI bd) (bI dt) (nI (b p)) (nI (if b p = 0 then last else mOrd (b p)) - (1 : Int32)) s := by
  have hpe := hs.2.2.2.2.1
  have he := hs.2.2.2.2.2.1
  unfold PX10_read_188
  rw [mW_bind] at h
  refine sp_u hs (mW_mono h (fun z hz h => ?_) (fun k p _ h => h))
  have z1 := mU_in hz hpe
  have z2 := mU_lt hz
  have hs1 := hs.at z1.2
  have hrep1 : mRep (mAt s (B + z.2)) B A := mRep_at hrep
  generalize hs1e : mAt s (B + z.2) = s1 at hs1 hrep1
  have g11 : s1.1 1 1 = nI (B + e) := by rw [(hs1.1 1 1 (by unfold kpd; omega)).1]; exact h1
  have ce : lN z.1 ≤ ((s1.1 1 1) - (s1.1 0 12)).toInt64 ↔ z.1 ≤ e - z.2 := by
    rw [g11, hs1.2.2.1, pk_sub (by omega), nI_l (by omega), pk_lLE (by omega) (by omega)]; omega
  rw [ce, hs1.2.2.1, lN_i, nI_add, Nat.add_assoc, hs.2.2.1]
  rw [mW_ite] at h
  have c0 : nI (b p) = (0 : Int32) ↔ b p = 0 := nI_eq (b := 0) (by omega) (by decide)
  rw [c0]
  refine ⟨fun q s3 e3 => ?_, fun q => ?_⟩
  · rw [if_neg (by omega)] at h
    have hs3 : mSt τ s3 B b (z.2 + z.1) z.2 := by rw [e3]; exact hs1.end (by omega) (by omega)
    have hrep3 : mRep s3 B A := by rw [e3]; exact mRep_mF hrep1 (mF.rf.i _ (Or.inl rfl))
    refine ⟨fun q0 => ?_, fun q0 => ?_⟩
    · rw [if_pos q0, if_pos q0, Except_bind_assoc, mW_bind] at h
      rw [if_pos q0]
      refine sp_name (short := false) hs3 rfl (mW_mono h (fun n hn h => ?_) (fun k p _ h => h))
      intro s4 hs4 ho4 _ _ s5 e5
      rw [hs4.2.2.2.1] at e5
      have hs5 : mSt τ s5 B b (z.2 + z.1) (z.2 + z.1) := by rw [e5]; exact hs4.at (Nat.le_refl _)
      have hrep4 : mRep s4 B A := mRep_mF hrep3 (ho4.f (by simp [zown]))
      have hrep5 : mRep s5 B A := by rw [e5]; exact mRep_at hrep4
      exact sp_read267 h1 he hid hl hs5 hrep5 (by omega) (by omega) hf hK (fun _ => by simpa [q0] using hinv) h
    · rw [if_neg q0, if_neg q0, mW_bind] at h
      rw [if_neg q0]
      have ho : last < mOrd (b p) := by omega
      obtain ⟨o1, o2, o4, o5, o10, o11, o12⟩ := mOrd_f (b p) hid
      refine sp_section hs3 hrep3 (o2 (by omega)) ⟨fun y => ?_, fun y => ?_, fun y => ?_⟩ (mW_mono h (fun r hr h => ?_) (fun k p _ h => h))
      · rw [hinv.1 (by have := o4 y; omega)]; exact Nat.zero_le _
      · rw [hinv.2.1 (by have := o5 y; omega)]; exact Nat.zero_le _
      · rw [hinv.2.2.1 (hinv.2.2.2.1 (by have := o10 y; omega))]; exact Nat.zero_le _
      · intro s6 hs6 hrep6
        exact sp_read267 h1 he hid o1 hs6 hrep6 (by omega) (by omega) hf hK (fun hf => sInv_step hid ho hinv hr hf) h
  · rw [if_pos (by omega)] at h
    exact sp_throw (k := 1) hs1.1 h
