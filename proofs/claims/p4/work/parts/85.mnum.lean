/-! the typing of numbers and of memory's instructions -/
def nu133 (x : Nat) : Nat × Nat × Nat := if x < 194 then (if x < 124 then (0, 1, 1) else if 138 < x then (0, 1, 1) else (1, 2, 1)) else (1, 1, 1)
def nu121 (x : Nat) : Nat × Nat × Nat := if x < 121 then nu133 x else if x ≤ 123 then (1, 1, 1) else nu133 x
def nu76 (x : Nat) : Nat × Nat × Nat := if x = 80 then (1, 1, 0) else if x = 167 then (1, 1, 0) else if x < 81 then nu121 x else if 90 < x then nu121 x else (1, 2, 0)
def nu54 (x : Nat) : Nat × Nat × Nat := if x < 106 then nu76 x else if 120 < x then nu76 x else (0, 2, 0)
def nu18 (x : Nat) : Nat × Nat × Nat := if x = 192 then (0, 1, 0) else if x = 193 then (0, 1, 0) else if x < 70 then nu54 x else if x ≤ 79 then (0, 2, 0) else nu54 x
def nu0 (x : Nat) : Nat × Nat × Nat := if x = 69 then (0, 1, 0) else if x < 103 then nu18 x else if x ≤ 105 then (0, 1, 0) else nu18 x
def tNum (x : Nat) (t : tT) : tT := tTurns (nu0 x).1 (nu0 x).2.1 (nu0 x).2.2 t
def tGo (τ σ : zS) (B : Nat) (b : Nat → Nat) (e a : Nat) (t : tT) (K : zS → Prop) (p : Nat × Nat × Nat) : Prop := ∀ s', tSt τ σ s' B b e a (tTurns p.1 p.2.1 p.2.2 t) → K s'
theorem sp_nu173 {τ σ s : zS} {B : Nat} {b : Nat → Nat} {e a : Nat} {t : tT} {K : zS → Prop} {QX : zS → Prop} (hs : tSt τ σ s B b e a t) (hf : ¬ t.2.1 = []) (hl : t.1.length < 16000) (h : tGo τ σ B b e a t K (0, 1, 1)) : PX10_numbers_173 (zQv K) QX s := by
  unfold PX10_numbers_173
  exact sp_turns (fr := 0) (n := 1) (to := 1) hs (by decide) (by decide) (by decide) hf hl h
theorem sp_nu140 {τ σ s : zS} {B : Nat} {b : Nat → Nat} {e a : Nat} {t : tT} {K : zS → Prop} {QX : zS → Prop} (hs : tSt τ σ s B b e a t) (hf : ¬ t.2.1 = []) (hl : t.1.length < 16000) (h : tGo τ σ B b e a t K (1, 1, 1)) : PX10_numbers_140 (zQv K) QX s := by
  unfold PX10_numbers_140
  exact sp_turns (fr := 1) (n := 1) (to := 1) hs (by decide) (by decide) (by decide) hf hl h
theorem sp_nu89 {τ σ s : zS} {B : Nat} {b : Nat → Nat} {e a : Nat} {t : tT} {K : zS → Prop} {QX : zS → Prop} (hs : tSt τ σ s B b e a t) (hf : ¬ t.2.1 = []) (hl : t.1.length < 16000) (h : tGo τ σ B b e a t K (1, 1, 0)) : PX10_numbers_89 (zQv K) QX s := by
  unfold PX10_numbers_89
  exact sp_turns (fr := 1) (n := 1) (to := 0) hs (by decide) (by decide) (by decide) hf hl h
theorem sp_nu66 {τ σ s : zS} {B : Nat} {b : Nat → Nat} {e a : Nat} {t : tT} {K : zS → Prop} {QX : zS → Prop} (hs : tSt τ σ s B b e a t) (hf : ¬ t.2.1 = []) (hl : t.1.length < 16000) (h : tGo τ σ B b e a t K (0, 2, 0)) : PX10_numbers_66 (zQv K) QX s := by
  unfold PX10_numbers_66
  exact sp_turns (fr := 0) (n := 2) (to := 0) hs (by decide) (by decide) (by decide) hf hl h
theorem sp_nu32 {τ σ s : zS} {B : Nat} {b : Nat → Nat} {e a : Nat} {t : tT} {K : zS → Prop} {QX : zS → Prop} (hs : tSt τ σ s B b e a t) (hf : ¬ t.2.1 = []) (hl : t.1.length < 16000) (h : tGo τ σ B b e a t K (0, 1, 0)) : PX10_numbers_32 (zQv K) QX s := by
  unfold PX10_numbers_32
  exact sp_turns (fr := 0) (n := 1) (to := 0) hs (by decide) (by decide) (by decide) hf hl h
theorem sp_nu133 {x : Nat} {τ σ s : zS} {B : Nat} {b : Nat → Nat} {e a : Nat} {t : tT} {K : zS → Prop} {QX : zS → Prop} (hs : tSt τ σ s B b e a t) (hf : ¬ t.2.1 = []) (hl : t.1.length < 16000) (hx : x < 256) (h : tGo τ σ B b e a t K (nu133 x)) : PX10_numbers_133 (zQv K) QX (nI x) s := by
  unfold PX10_numbers_133
  rw [nu133] at h
  have l194 : nI x < (194 : Int32) ↔ x < 194 := nI_ltI (b := 194) (by omega) (by decide)
  have l124 : nI x < (124 : Int32) ↔ x < 124 := nI_ltI (b := 124) (by omega) (by decide)
  have g138 : (138 : Int32) < nI x ↔ 138 < x := nI_ltI (a := 138) (by decide) (by omega)
  rw [l194, l124, g138]
  refine ⟨fun q => ?_, fun q => ?_⟩
  · rw [if_pos q] at h
    refine ⟨fun q => ?_, fun q => ?_⟩
    · rw [if_pos q] at h; exact sp_nu173 hs hf hl h
    rw [if_neg q] at h
    refine ⟨fun q => ?_, fun q => ?_⟩
    · rw [if_pos q] at h; exact sp_nu173 hs hf hl h
    rw [if_neg q] at h
    exact sp_turns (fr := 1) (n := 2) (to := 1) hs (by decide) (by decide) (by decide) hf hl h
  · rw [if_neg q] at h; exact sp_nu140 hs hf hl h
theorem sp_nu121 {x : Nat} {τ σ s : zS} {B : Nat} {b : Nat → Nat} {e a : Nat} {t : tT} {K : zS → Prop} {QX : zS → Prop} (hs : tSt τ σ s B b e a t) (hf : ¬ t.2.1 = []) (hl : t.1.length < 16000) (hx : x < 256) (h : tGo τ σ B b e a t K (nu121 x)) : PX10_numbers_121 (zQv K) QX (nI x) s := by
  unfold PX10_numbers_121
  rw [nu121] at h
  have l121 : nI x < (121 : Int32) ↔ x < 121 := nI_ltI (b := 121) (by omega) (by decide)
  have m123 : nI x ≤ (123 : Int32) ↔ x ≤ 123 := nI_leI (b := 123) (by omega) (by decide)
  rw [l121, m123]
  refine ⟨fun q => ?_, fun q => ?_⟩
  · rw [if_pos q] at h; exact sp_nu133 hs hf hl hx h
  rw [if_neg q] at h
  refine ⟨fun q => ?_, fun q => ?_⟩
  · rw [if_pos q] at h; exact sp_nu140 hs hf hl h
  rw [if_neg q] at h
  exact sp_nu133 hs hf hl hx h
theorem sp_nu76 {x : Nat} {τ σ s : zS} {B : Nat} {b : Nat → Nat} {e a : Nat} {t : tT} {K : zS → Prop} {QX : zS → Prop} (hs : tSt τ σ s B b e a t) (hf : ¬ t.2.1 = []) (hl : t.1.length < 16000) (hx : x < 256) (h : tGo τ σ B b e a t K (nu76 x)) : PX10_numbers_76 (zQv K) QX (nI x) s := by
  unfold PX10_numbers_76
  rw [nu76] at h
  have e80 : nI x = (80 : Int32) ↔ x = 80 := nI_eq (b := 80) (by omega) (by decide)
  have e167 : nI x = (167 : Int32) ↔ x = 167 := nI_eq (b := 167) (by omega) (by decide)
  have l81 : nI x < (81 : Int32) ↔ x < 81 := nI_ltI (b := 81) (by omega) (by decide)
  have g90 : (90 : Int32) < nI x ↔ 90 < x := nI_ltI (a := 90) (by decide) (by omega)
  rw [e80, e167, l81, g90]
  refine ⟨fun q => ?_, fun q => ?_⟩
  · rw [if_pos q] at h; exact sp_nu89 hs hf hl h
  rw [if_neg q] at h
  refine ⟨fun q => ?_, fun q => ?_⟩
  · rw [if_pos q] at h; exact sp_nu89 hs hf hl h
  rw [if_neg q] at h
  refine ⟨fun q => ?_, fun q => ?_⟩
  · rw [if_pos q] at h; exact sp_nu121 hs hf hl hx h
  rw [if_neg q] at h
  refine ⟨fun q => ?_, fun q => ?_⟩
  · rw [if_pos q] at h; exact sp_nu121 hs hf hl hx h
  rw [if_neg q] at h
  exact sp_turns (fr := 1) (n := 2) (to := 0) hs (by decide) (by decide) (by decide) hf hl h
theorem sp_nu54 {x : Nat} {τ σ s : zS} {B : Nat} {b : Nat → Nat} {e a : Nat} {t : tT} {K : zS → Prop} {QX : zS → Prop} (hs : tSt τ σ s B b e a t) (hf : ¬ t.2.1 = []) (hl : t.1.length < 16000) (hx : x < 256) (h : tGo τ σ B b e a t K (nu54 x)) : PX10_numbers_54 (zQv K) QX (nI x) s := by
  unfold PX10_numbers_54
  rw [nu54] at h
  have l106 : nI x < (106 : Int32) ↔ x < 106 := nI_ltI (b := 106) (by omega) (by decide)
  have g120 : (120 : Int32) < nI x ↔ 120 < x := nI_ltI (a := 120) (by decide) (by omega)
  rw [l106, g120]
  refine ⟨fun q => ?_, fun q => ?_⟩
  · rw [if_pos q] at h; exact sp_nu76 hs hf hl hx h
  rw [if_neg q] at h
  refine ⟨fun q => ?_, fun q => ?_⟩
  · rw [if_pos q] at h; exact sp_nu76 hs hf hl hx h
  rw [if_neg q] at h
  exact sp_nu66 hs hf hl h
theorem sp_nu18 {x : Nat} {τ σ s : zS} {B : Nat} {b : Nat → Nat} {e a : Nat} {t : tT} {K : zS → Prop} {QX : zS → Prop} (hs : tSt τ σ s B b e a t) (hf : ¬ t.2.1 = []) (hl : t.1.length < 16000) (hx : x < 256) (h : tGo τ σ B b e a t K (nu18 x)) : PX10_numbers_18 (zQv K) QX (nI x) s := by
  unfold PX10_numbers_18
  rw [nu18] at h
  have e192 : nI x = (192 : Int32) ↔ x = 192 := nI_eq (b := 192) (by omega) (by decide)
  have e193 : nI x = (193 : Int32) ↔ x = 193 := nI_eq (b := 193) (by omega) (by decide)
  have l70 : nI x < (70 : Int32) ↔ x < 70 := nI_ltI (b := 70) (by omega) (by decide)
  have m79 : nI x ≤ (79 : Int32) ↔ x ≤ 79 := nI_leI (b := 79) (by omega) (by decide)
  rw [e192, e193, l70, m79]
  refine ⟨fun q => ?_, fun q => ?_⟩
  · rw [if_pos q] at h; exact sp_nu32 hs hf hl h
  rw [if_neg q] at h
  refine ⟨fun q => ?_, fun q => ?_⟩
  · rw [if_pos q] at h; exact sp_nu32 hs hf hl h
  rw [if_neg q] at h
  refine ⟨fun q => ?_, fun q => ?_⟩
  · rw [if_pos q] at h; exact sp_nu54 hs hf hl hx h
  rw [if_neg q] at h
  refine ⟨fun q => ?_, fun q => ?_⟩
  · rw [if_pos q] at h; exact sp_nu66 hs hf hl h
  rw [if_neg q] at h
  exact sp_nu54 hs hf hl hx h
theorem sp_numbers {x : Nat} {τ σ s : zS} {B : Nat} {b : Nat → Nat} {e a : Nat} {t : tT} {K : zS → Prop} {QX : zS → Prop} (hs : tSt τ σ s B b e a t) (hf : ¬ t.2.1 = []) (hl : t.1.length < 16000) (hx : x < 256) (h : ∀ s', tSt τ σ s' B b e a (tNum x t) → K s') : zCT zZM zmX10_numbers [.ref 0, .int (nI x)] s (zQv K) QX := by
  refine rX10_numbers ?_
  unfold PX10_numbers_0
  have h : tGo τ σ B b e a t K (nu0 x) := h
  rw [nu0] at h
  have e69 : nI x = (69 : Int32) ↔ x = 69 := nI_eq (b := 69) (by omega) (by decide)
  have l103 : nI x < (103 : Int32) ↔ x < 103 := nI_ltI (b := 103) (by omega) (by decide)
  have m105 : nI x ≤ (105 : Int32) ↔ x ≤ 105 := nI_leI (b := 105) (by omega) (by decide)
  rw [e69, l103, m105]
  refine ⟨fun q => ?_, fun q => ?_⟩
  · rw [if_pos q] at h; exact sp_nu32 hs hf hl h
  rw [if_neg q] at h
  refine ⟨fun q => ?_, fun q => ?_⟩
  · rw [if_pos q] at h; exact sp_nu18 hs hf hl hx h
  rw [if_neg q] at h
  refine ⟨fun q => ?_, fun q => ?_⟩
  · rw [if_pos q] at h; exact sp_nu32 hs hf hl h
  rw [if_neg q] at h
  exact sp_nu18 hs hf hl hx h
