/-! THE CLASS's reader against the parser: at a place (cSt), or with a fault (cEr) -/
def cB (s : zS) (b : Nat → Nat) : Prop := ∀ j, j < 16000 → b j < 256 ∧ s.1 10 j = sb_b (b j)
def cSt (s : zS) (b : Nat → Nat) (e a : Nat) : Prop := cB s b ∧ e ≤ 16000 ∧ s.1 1 4 = 0 ∧ s.1 1 2 = nI a ∧ s.1 1 3 = nI e ∧ a ≤ e ∧ sV s
def cEr (s : zS) (k p : Nat) : Prop := s.1 1 4 = nI k ∧ (1 ≤ k ∧ k ≤ 4) ∧ s.1 1 5 = nI p ∧ sV s
theorem cSt.v {s : zS} {b : Nat → Nat} {e a : Nat} (h : cSt s b e a) : sV s := h.2.2.2.2.2.2
theorem cEr.v {s : zS} {k p : Nat} (h : cEr s k p) : sV s := h.2.2.2
theorem cEr.bad {s : zS} {k p : Nat} (h : cEr s k p) : ¬ s.1 1 4 = 0 := by
  obtain ⟨h1, h2, -⟩ := h
  rw [h1]
  intro z
  have := (nI_eq (b := 0) (by omega) (by decide)).1 z
  omega
theorem cEr.keep {s s' : zS} {k p : Nat} (h : cEr s k p) (q : sR s s') : cEr s' k p := by
  have z := q.1.2 h.bad
  exact ⟨z.1.trans h.1, h.2.1, z.2.trans h.2.2.1, q.2⟩
theorem fK.v {σ s : zS} (k : fK σ s) (h : sV σ) : sV s := by
  obtain ⟨v1, v2, v3, v4, v5, v6, v8, v7⟩ := h
  have g : ∀ c i, ¬ c = 1 → s.1 c i = σ.1 c i := fun c i a => (k c i (fun z => a z.1)).1
  refine ⟨?_, ?_, ?_, ?_, ?_, ?_, ?_, fun i => ?_⟩
  · rw [g _ _ (by decide)]; exact v1
  · rw [g _ _ (by decide)]; exact v2
  · rw [g _ _ (by decide)]; exact v3
  · rw [g _ _ (by decide)]; exact v4
  · rw [g _ _ (by decide)]; exact v5
  · rw [g _ _ (by decide)]; exact v6
  · rw [g _ _ (by decide)]; exact v8
  · rw [g _ _ (by decide)]; exact v7 i
theorem fK.q {σ s : zS} (k : fK σ s) : sQ σ s := fun c i h => (k c i (by omega)).1
/-- what a fault leads to -/
def cEv (σ : zS) (K : zS → Prop) : Nat → Nat → Prop := fun k p => ∀ s, cEr s k p → sQ σ s → K s
def cEi (σ : zS) (K : Int32 → zS → Prop) : Nat → Nat → Prop := fun k p => ∀ v s, cEr s k p → sQ σ s → K v s
def cEl (σ : zS) (K : Int64 → zS → Prop) : Nat → Nat → Prop := fun k p => ∀ v s, cEr s k p → sQ σ s → K v s
theorem cEv.go {σ s : zS} {K : zS → Prop} {k p : Nat} (h : cEv σ K k p) (q : sQ σ s) (e : cEr s k p) : ∀ z, sR s z → K z := fun z r => h z (e.keep r) (q.trans r.q)
theorem cEi.go {σ s : zS} {K : Int32 → zS → Prop} {k p : Nat} (h : cEi σ K k p) (q : sQ σ s) (e : cEr s k p) : ∀ v z, sR s z → K v z := fun v z r => h v z (e.keep r) (q.trans r.q)
theorem cEl.go {σ s : zS} {K : Int64 → zS → Prop} {k p : Nat} (h : cEl σ K k p) (q : sQ σ s) (e : cEr s k p) : ∀ v z, sR s z → K v z := fun v z r => h v z (e.keep r) (q.trans r.q)
theorem cEv.to {σ s : zS} {K : zS → Prop} {k p : Nat} (h : cEv σ K k p) (q : sQ σ s) : cEv s K k p := fun z e r => h z e (q.trans r)
theorem cEi.to {σ s : zS} {K : Int32 → zS → Prop} {k p : Nat} (h : cEi σ K k p) (q : sQ σ s) : cEi s K k p := fun v z e r => h v z e (q.trans r)
theorem cEl.to {σ s : zS} {K : Int64 → zS → Prop} {k p : Nat} (h : cEl σ K k p) (q : sQ σ s) : cEl s K k p := fun v z e r => h v z e (q.trans r)
theorem cSt.at {s : zS} {b : Nat → Nat} {e a a' : Nat} (h : cSt s b e a) (ha : a' ≤ e) : cSt (zsI s 1 2 (nI a')) b e a' :=
  ⟨fun j hj => ⟨(h.1 j hj).1, by rw [zI1, if_neg (by omega)]; exact (h.1 j hj).2⟩, h.2.1, by rw [zI1, if_neg (by omega)]; exact h.2.2.1, by rw [zI1, if_pos ⟨rfl, rfl⟩], by rw [zI1, if_neg (by omega)]; exact h.2.2.2.2.1, ha, (fK.rf.i _ (by omega) : fK s _).v h.v⟩
theorem cSt.end {s : zS} {b : Nat → Nat} {e a e' : Nat} (h : cSt s b e a) (ha : a ≤ e') (he : e' ≤ 16000) : cSt (zsI s 1 3 (nI e')) b e' a :=
  ⟨fun j hj => ⟨(h.1 j hj).1, by rw [zI1, if_neg (by omega)]; exact (h.1 j hj).2⟩, he, by rw [zI1, if_neg (by omega)]; exact h.2.2.1, by rw [zI1, if_neg (by omega)]; exact h.2.2.2.1, by rw [zI1, if_pos ⟨rfl, rfl⟩], ha, (fK.rf.i _ (by omega) : fK s _).v h.v⟩
/-- a fault where there was none -/
theorem cSt.bad {s : zS} {b : Nat → Nat} {e a k p : Nat} (h : cSt s b e a) (hk : 1 ≤ k ∧ k ≤ 4) : cEr (zsI (zsI s 1 4 (nI k)) 1 5 (nI p)) k p :=
  ⟨by rw [zI1, if_neg (by omega), zI1, if_pos ⟨rfl, rfl⟩], hk, by rw [zI1, if_pos ⟨rfl, rfl⟩], ((fK.rf.i _ (by omega)).i _ (by omega) : fK s _).v h.v⟩
theorem rd_fail {s : zS} {b : Nat → Nat} {e a : Nat} (k p : Nat) {w : Int32} {K : zS → Prop} {QX : zS → Prop} (hs : cSt s b e a) (hk : 1 ≤ k ∧ k ≤ 4) (hw : w = nI p) (h : ∀ s', cEr s' k p → sQ s s' → K s') : zCT zZC zmX4_fail [.ref 1, .int (nI k), .int w] s (zQv K) QX := by
  refine rX4_fail ?_
  unfold PX4_fail_0
  rw [hs.2.2.1]
  refine ⟨fun _ s1 e1 s2 e2 => ?_, fun q => absurd rfl q⟩
  rw [hw, e1] at e2
  rw [e2]
  exact h _ (hs.bad hk) (((fK.rf.i _ (by omega)).i _ (by omega) : fK s _).q)
theorem rd_octet {s : zS} {b : Nat → Nat} {e a : Nat} {K : Int32 → zS → Prop} {QX : zS → Prop} (hs : cSt s b e a) (h : mW (mOct b e a) (fun r => ∀ s', fK s s' → cSt s' b e r.2 → K (nI r.1) s') (cEi s K)) : zCT zZC zmX4_octet [.ref 1] s (zQi K) QX := by
  refine rX4_octet ?_
  unfold PX4_octet_0
  obtain ⟨hb, he, h4, h2, h3, hae, hv⟩ := id hs
  have c0 : nI a < (0 : Int32) ↔ a < 0 := nI_ltI (b := 0) (by omega) (by decide)
  have c1 : nI e ≤ nI a ↔ e ≤ a := nI_leI (by omega) (by omega)
  have c2 : nI a < nI 16000 ↔ a < 16000 := nI_ltI (by omega) (by decide)
  rw [h4, h2, h3, c0, c1, c2]
  refine ⟨fun _ => ⟨fun z => absurd z (Nat.not_lt_zero _), fun _ => ⟨fun q s3 e3 s4 e4 => ?_, fun q => ⟨fun _ => ⟨vp_in_nI (by omega) (by decide), fun s5 e5 => ?_⟩, fun z => absurd (by omega) z⟩⟩⟩, fun z => absurd rfl z⟩
  · have hm : mOct b e a = .error (1, e) := by unfold mOct; rw [if_neg (by omega)]
    rw [hm] at h
    have n3 : s3.1 1 3 = nI e := by rw [e3, zI1, if_neg (by omega)]; exact h3
    rw [n3, e3] at e4
    rw [e4]
    exact h _ _ (hs.bad (k := 1) (by decide)) (((fK.rf.i _ (by omega)).i _ (by omega) : fK s _).q)
  · have hm : mOct b e a = .ok (b a, a + 1) := by unfold mOct; rw [if_pos (by omega)]
    rw [hm] at h
    have hv := hb a (by omega)
    rw [nI_clamp (by omega), hv.2, mByte hv.1]
    rw [nI_1] at e5
    rw [e5]
    exact h _ (fK.rf.i _ (by omega)) (hs.at (by omega))
def mOw (b : Nat → Nat) (e lo hi a : Nat) : mE (Nat × Nat) := (mOct b e a).bind fun r => if lo ≤ r.1 ∧ r.1 ≤ hi then .ok r else .error (1, a)
theorem rd_octetWithin {s : zS} {b : Nat → Nat} {e a : Nat} (lo hi : Nat) {l u : Int32} {K : Int32 → zS → Prop} {QX : zS → Prop} (hs : cSt s b e a) (hl : l = nI lo) (hu : u = nI hi) (hlo : lo < 256) (hhi : hi < 256) (h : mW (mOw b e lo hi a) (fun r => ∀ s', fK s s' → cSt s' b e r.2 → K (nI r.1) s') (cEi s K)) : zCT zZC zmX4_octetWithin [.ref 1, .int l, .int u] s (zQi K) QX := by
  refine rX4_octetWithin ?_
  unfold PX4_octetWithin_0
  unfold mOw at h
  rw [mW_bind] at h
  refine rd_octet hs (mW_mono h (fun r hr h s1 k1 hs1 => ?_) (fun k p hq h2 v s1 her q1 => er_X4_octetWithin_0_0 her.v (h2.go q1 her)))
  obtain ⟨h1, rfl⟩ := mOct_in hr
  have hba := (hs.1 a (by have := hs.2.1; omega)).1
  have c1 : nI (b a) < nI lo ↔ b a < lo := nI_ltI (by omega) (by omega)
  have c2 : nI (b a) ≤ nI hi ↔ b a ≤ hi := nI_leI (by omega) (by omega)
  rw [hl, hu]
  simp only [c1, c2]
  have ff : ¬ (lo ≤ b a ∧ b a ≤ hi) → ∀ s3, cEr s3 1 a → sQ s1 s3 → ∀ v z, sR s3 z → K v z := fun c s3 her q3 => by
    rw [if_neg c] at h
    exact cEi.go (k := 1) (p := a) h (k1.q.trans q3) her
  refine ⟨fun c => ?_, fun c => ⟨fun c2 => ?_, fun c2 => ?_⟩⟩
  · exact rd_fail 1 a hs1 (by decide) hs.2.2.2.1 (fun s3 her q3 => er_X4_octetWithin_0_1 her.v (ff (by omega) s3 her q3))
  · rw [if_pos ⟨by omega, c2⟩] at h
    exact h s1 k1 hs1
  · exact rd_fail 1 a hs1 (by decide) hs.2.2.2.1 (fun s3 her q3 => er_X4_octetWithin_0_2 her.v (ff (by omega) s3 her q3))
theorem rd_type {s : zS} {b : Nat → Nat} {e a : Nat} {K : Int32 → zS → Prop} {QX : zS → Prop} (hs : cSt s b e a) (h : mW (mType b e a) (fun r => ∀ s', fK s s' → cSt s' b e r.2 → r.1 ≤ 1 → K (nI (127 - r.1)) s') (cEi s K)) : zCT zZC zmX4_type [.ref 1] s (zQi K) QX := by
  refine rX4_type ?_
  unfold PX4_type_0
  refine rd_octetWithin 126 127 hs rfl rfl (by decide) (by decide) ?_
  unfold mType at h
  unfold mOw
  rw [mW_bind] at h ⊢
  refine mW_mono h (fun r hr h => ?_) (fun k p _ h => h)
  by_cases c : 126 ≤ r.1 ∧ r.1 ≤ 127
  · rw [if_pos (by omega)] at h
    rw [if_pos c]
    intro s1 k1 hs1
    have := h s1 k1 hs1 (by show 127 - r.1 ≤ 1; omega)
    rw [show 127 - (127 - r.1) = r.1 by omega] at this
    exact this
  · rw [if_neg (by omega)] at h
    rw [if_neg c]
    exact h
/-- class's number of a type -/
def tyN (t : Nat) : Nat := if t = 2 then 64 else if t = 3 then 0 else 127 - t
theorem rd_blockType {s : zS} {b : Nat → Nat} {e a : Nat} {K : Int32 → zS → Prop} {QX : zS → Prop} (hs : cSt s b e a) (h : mW (mBt b e a) (fun r => ∀ s', fK s s' → cSt s' b e r.2 → r.1 ≤ 2 → K (nI (tyN r.1)) s') (cEi s K)) : zCT zZC zmX4_blockType [.ref 1] s (zQi K) QX := by
  refine rX4_blockType ?_
  unfold PX4_blockType_0
  unfold mBt at h
  rw [mW_bind] at h
  refine rd_octet hs (mW_mono h (fun r hr h s1 k1 hs1 => ?_) (fun k p hq h2 v s1 her q1 => er_X4_blockType_0_0 her.v (h2.go q1 her)))
  obtain ⟨h1, rfl⟩ := mOct_in hr
  have hba := (hs.1 a (by have := hs.2.1; omega)).1
  have c1 : nI (b a) = (64 : Int32) ↔ b a = 64 := nI_eq (b := 64) (by omega) (by omega)
  have c2 : nI (b a) = (127 : Int32) ↔ b a = 127 := nI_eq (b := 127) (by omega) (by omega)
  have c3 : nI (b a) = (126 : Int32) ↔ b a = 126 := nI_eq (b := 126) (by omega) (by omega)
  simp only [c1, c2, c3]
  refine ⟨fun c => ?_, fun c => ⟨fun c2 => ?_, fun c2 => ⟨fun c3 => ?_, fun c3 => ?_⟩⟩⟩
  · have h : mW (if b a = 64 then .ok (2, a + 1) else if b a = 127 ∨ b a = 126 then .ok (127 - b a, a + 1) else .error (1, a)) _ _ := h
    rw [if_pos c] at h
    rw [c]
    exact h s1 k1 hs1 (Nat.le_of_ble_eq_true rfl)
  · have h : mW (if b a = 64 then .ok (2, a + 1) else if b a = 127 ∨ b a = 126 then .ok (127 - b a, a + 1) else .error (1, a)) _ _ := h
    rw [if_neg c, if_pos (Or.inl c2), c2] at h
    rw [c2]
    exact h s1 k1 hs1 (Nat.le_of_ble_eq_true rfl)
  · have h : mW (if b a = 64 then .ok (2, a + 1) else if b a = 127 ∨ b a = 126 then .ok (127 - b a, a + 1) else .error (1, a)) _ _ := h
    rw [if_neg c, if_pos (Or.inr c3), c3] at h
    rw [c3]
    exact h s1 k1 hs1 (Nat.le_of_ble_eq_true rfl)
  · have h : mW (if b a = 64 then .ok (2, a + 1) else if b a = 127 ∨ b a = 126 then .ok (127 - b a, a + 1) else .error (1, a)) _ (cEi s K) := h
    rw [if_neg c, if_neg (by omega)] at h
    exact rd_fail 1 a hs1 (by decide) hs.2.2.2.1 (fun s3 her q3 => er_X4_blockType_0_1 her.v (cEi.go (k := 1) (p := a) h (k1.q.trans q3) her))
