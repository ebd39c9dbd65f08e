/-! the typing of memory's instructions -/
def vt0 (x : Nat) : Nat := if x = 40 then 0 else if x < 44 then (if x = 54 then 0 else if x = 58 then 0 else if x = 59 then 0 else 1) else if x ≤ 47 then 0 else if x = 54 then 0 else if x = 58 then 0 else if x = 59 then 0 else 1
theorem vt0_le (x : Nat) : vt0 x ≤ 1 := by
  unfold vt0
  repeat' split
  all_goals decide
theorem sp_valueType {x : Nat} {σ : zS} {K : Int32 → zS → Prop} {QX : zS → Prop} (hx : x < 256) (h : K (nI (vt0 x)) σ) : zCT zZM zmX10_valueType [.int (nI x)] σ (zQi K) QX := by
  refine rX10_valueType ?_
  unfold PX10_valueType_0
  rw [vt0] at h
  have e40 : nI x = (40 : Int32) ↔ x = 40 := nI_eq (b := 40) (by omega) (by decide)
  have e54 : nI x = (54 : Int32) ↔ x = 54 := nI_eq (b := 54) (by omega) (by decide)
  have e58 : nI x = (58 : Int32) ↔ x = 58 := nI_eq (b := 58) (by omega) (by decide)
  have e59 : nI x = (59 : Int32) ↔ x = 59 := nI_eq (b := 59) (by omega) (by decide)
  have l44 : nI x < (44 : Int32) ↔ x < 44 := nI_ltI (b := 44) (by omega) (by decide)
  have m47 : nI x ≤ (47 : Int32) ↔ x ≤ 47 := nI_leI (b := 47) (by omega) (by decide)
  rw [e40, l44, e54, e58, e59, m47]
  refine ⟨fun q => ?_, fun q => ?_⟩
  · rw [if_pos q] at h; exact h
  rw [if_neg q] at h
  refine ⟨fun q => ?_, fun q => ?_⟩
  · rw [if_pos q] at h
    refine ⟨fun q => ?_, fun q => ?_⟩
    · rw [if_pos q] at h; exact h
    rw [if_neg q] at h
    refine ⟨fun q => ?_, fun q => ?_⟩
    · rw [if_pos q] at h; exact h
    rw [if_neg q] at h
    refine ⟨fun q => ?_, fun q => ?_⟩
    · rw [if_pos q] at h; exact h
    rw [if_neg q] at h
    exact h
  · rw [if_neg q] at h
    refine ⟨fun q => ?_, fun q => ?_⟩
    · rw [if_pos q] at h; exact h
    rw [if_neg q] at h
    refine ⟨fun q => ?_, fun q => ?_⟩
    · rw [if_pos q] at h; exact h
    rw [if_neg q] at h
    refine ⟨fun q => ?_, fun q => ?_⟩
    · rw [if_pos q] at h; exact h
    rw [if_neg q] at h
    refine ⟨fun q => ?_, fun q => ?_⟩
    · rw [if_pos q] at h; exact h
    rw [if_neg q] at h
    exact h
def wd0 (x : Nat) : Nat := if x = 40 ∨ x = 52 ∨ x = 53 ∨ x = 54 ∨ x = 62 then 2 else if x = 41 ∨ x = 55 then 3 else if x = 46 ∨ x = 47 ∨ x = 50 ∨ x = 51 ∨ x = 59 ∨ x = 61 then 1 else 0
theorem sp_width {x : Nat} {σ : zS} {K : Int32 → zS → Prop} {QX : zS → Prop} (hx : x < 256) (h : K (nI (wd0 x)) σ) : zCT zZM zmX10_width [.int (nI x)] σ (zQi K) QX := by
  refine rX10_width ?_
  unfold PX10_width_0
  rw [wd0] at h
  show ((nI x = 40 ∨ nI x = 52 ∨ nI x = 53 ∨ nI x = 54 ∨ nI x = 62) → _) ∧ (¬ (nI x = 40 ∨ nI x = 52 ∨ nI x = 53 ∨ nI x = 54 ∨ nI x = 62) → ((nI x = 41 ∨ nI x = 55) → _) ∧ (¬ (nI x = 41 ∨ nI x = 55) → ((nI x = 46 ∨ nI x = 47 ∨ nI x = 50 ∨ nI x = 51 ∨ nI x = 59 ∨ nI x = 61) → _) ∧ (¬ (nI x = 46 ∨ nI x = 47 ∨ nI x = 50 ∨ nI x = 51 ∨ nI x = 59 ∨ nI x = 61) → _)))
  have e40 : nI x = (40 : Int32) ↔ x = 40 := nI_eq (b := 40) (by omega) (by decide)
  have e52 : nI x = (52 : Int32) ↔ x = 52 := nI_eq (b := 52) (by omega) (by decide)
  have e53 : nI x = (53 : Int32) ↔ x = 53 := nI_eq (b := 53) (by omega) (by decide)
  have e54 : nI x = (54 : Int32) ↔ x = 54 := nI_eq (b := 54) (by omega) (by decide)
  have e62 : nI x = (62 : Int32) ↔ x = 62 := nI_eq (b := 62) (by omega) (by decide)
  have e41 : nI x = (41 : Int32) ↔ x = 41 := nI_eq (b := 41) (by omega) (by decide)
  have e55 : nI x = (55 : Int32) ↔ x = 55 := nI_eq (b := 55) (by omega) (by decide)
  have e46 : nI x = (46 : Int32) ↔ x = 46 := nI_eq (b := 46) (by omega) (by decide)
  have e47 : nI x = (47 : Int32) ↔ x = 47 := nI_eq (b := 47) (by omega) (by decide)
  have e50 : nI x = (50 : Int32) ↔ x = 50 := nI_eq (b := 50) (by omega) (by decide)
  have e51 : nI x = (51 : Int32) ↔ x = 51 := nI_eq (b := 51) (by omega) (by decide)
  have e59 : nI x = (59 : Int32) ↔ x = 59 := nI_eq (b := 59) (by omega) (by decide)
  have e61 : nI x = (61 : Int32) ↔ x = 61 := nI_eq (b := 61) (by omega) (by decide)
  rw [e40, e52, e53, e54, e62, e41, e55, e46, e47, e50, e51, e59, e61]
  refine ⟨fun q => ?_, fun q => ?_⟩
  · rw [if_pos q] at h; exact h
  rw [if_neg q] at h
  refine ⟨fun q => ?_, fun q => ?_⟩
  · rw [if_pos q] at h; exact h
  rw [if_neg q] at h
  refine ⟨fun q => ?_, fun q => ?_⟩
  · rw [if_pos q] at h; exact h
  rw [if_neg q] at h
  exact h
theorem zown_ty {c i : Nat} (h : tyC c i) : zown c i = 0 ∨ zown c i = 99 := by
  unfold tyC at h
  rcases h with h | ⟨rfl, h⟩
  · have : c = 7 ∨ c = 8 ∨ c = 9 ∨ c = 10 ∨ c = 11 ∨ c = 12 := by omega
    rcases this with rfl | rfl | rfl | rfl | rfl | rfl <;> exact Or.inr rfl
  · rcases h with rfl | rfl | rfl | rfl
    · exact Or.inl rfl
    · exact Or.inr rfl
    · exact Or.inr rfl
    · exact Or.inr rfl
theorem yK.f {σ s : zS} (h : yK σ s) : mF 99 σ s := fun c i h0 h9 => h c i (fun q => by rcases zown_ty q with z | z; exact h0 z; exact h9 z)
theorem tSt.rep {τ σ s : zS} {B : Nat} {b : Nat → Nat} {e a : Nat} {t : tT} {A : mA} (hs : tSt τ σ s B b e a t) (hr : mRep σ B A) : mRep s B A := mRep_mF hr hs.2.1.f
def tAcc (A : mA) (op power : Nat) (t : tT) : tT := if isStN op = true then (tTake 0 (tTake (vt0 op) (tNeed (hasK A 2 && decide (power ≤ wd0 op)) t)).2).2 else tTurns 0 1 (vt0 op) (tNeed (hasK A 2 && decide (power ≤ wd0 op)) t)
theorem sp_access {τ σ s : zS} {B : Nat} {b : Nat → Nat} {e a x : Nat} {u v : Nat × Nat} {t : tT} {A : mA} {K : zS → Prop} {QX : zS → Prop} (hs : tSt τ σ s B b e a t) (hr : mRep σ B A) (hx : x < 256) (hf : ¬ t.2.1 = []) (hl : t.1.length < 16000)
    (hu : mU b e a = .ok u) (hv : mU b e u.2 = .ok v) (h : ∀ s', tSt τ σ s' B b e v.2 (tAcc A x u.1 t) → K s') : zCT zZM zmX10_access [.ref 0, .ref 1, .int (nI x)] s (zQv K) QX := by
  refine rX10_access ?_
  unfold PX10_access_0
  have u1 := mU_in hu hs.1.2.2.2.2.1
  have u2 := mU_lt hu
  have v1 := mU_in hv u1.2
  refine sp_u hs.1 ?_
  rw [hu]
  have hs1 := hs.at u1.2
  refine sp_u hs1.1 ?_
  rw [hv]
  have hs2 := hs1.at v1.2
  have fin : ∀ (c : Bool) s7, c = (hasK A 2 && decide (u.1 ≤ wd0 x)) → tSt τ σ s7 B b e v.2 (tNeed c t) → zCT zZM zmX10_isStore [.int (nI x)] s7 (zQi (fun r9 s8 =>
              ((r9 = 0 →
                zCT zZM zmX10_valueType [.int (nI x)] s8 (zQi (fun r11 s10 =>
                  zCT zZM zmX10_turns [.ref 0, .int (0 : Int32), .int (1 : Int32), .int r11] s10 (zQv (fun s12 =>
                    zQv K none s12)) QX)) QX) ∧ (¬ r9 = 0 →
                zCT zZM zmX10_valueType [.int (nI x)] s8 (zQi (fun r14 s13 =>
                  zCT zZM zmX10_takes [.ref 0, .int r14] s13 (zQi (fun r16 s15 =>
                    zCT zZM zmX10_takes [.ref 0, .int (0 : Int32)] s15 (zQi (fun r18 s17 =>
                      zQv K none s17)) QX)) QX)) QX)))) QX := by
    intro c s7 hc hs7
    have hv3 : vt0 x ≤ 3 := Nat.le_trans (vt0_le x) (by decide)
    refine sp_isStore hx ?_
    rw [bI_0]
    unfold tAcc at h
    rw [← hc] at h
    refine ⟨fun q => ?_, fun q => ?_⟩
    · rw [if_neg (by rw [q]; decide)] at h
      refine sp_valueType hx ?_
      exact sp_turns (fr := 0) (n := 1) hs7 (by decide) (by decide) hv3 hf hl h
    · rw [if_pos (by simpa using q)] at h
      refine sp_valueType hx ?_
      refine sp_takes hs7 hv3 hf (fun _ s9 hs9 => ?_)
      refine sp_takes (n := 0) hs9 (by decide) (by rw [tTake_f]; exact hf) (fun _ s11 hs11 => ?_)
      exact h s11 hs11
  refine sp_has (k := 2) (hs2.rep hr) (Or.inr rfl) ?_
  rw [bI_0]
  refine ⟨fun q => ?_, fun q => ?_⟩
  · exact sp_need (c := false) hs2 rfl (fun s7 hs7 => fin false s7 (by rw [q]; rfl) hs7)
  · have q1 : hasK A 2 = true := by simpa using q
    refine sp_width hx ?_
    have hw : wd0 x ≤ 3 := by
      unfold wd0
      repeat' split
      all_goals decide
    have cw : (nI (wd0 x)).toInt64 < lN u.1 ↔ wd0 x < u.1 := by rw [nI_l (by omega)]; exact pk_lLT (by omega) (by omega)
    rw [cw]
    refine ⟨fun q2 => ?_, fun q2 => ?_⟩
    · exact sp_need (c := false) hs2 rfl (fun s7 hs7 => fin false s7 (by rw [q1, decide_eq_false (by omega)]; rfl) hs7)
    · exact sp_need (c := true) hs2 rfl (fun s7 hs7 => fin true s7 (by rw [q1, decide_eq_true (by omega)]; rfl) hs7)
