/-! the reference's rows: globals, exports, own tables and memories, data -/
theorem row_app {α : Type} {l : List α} {x : α} {P : Nat → α → Prop} (h : ∀ i y, i < l.length → l[i]? = some y → P i y) (hx : P l.length x) : ∀ i y, (l ++ [x])[i]? = some y → P i y := by
  intro i y hy
  by_cases hi : i < l.length
  · rw [List.getElem?_append_left hi] at hy; exact h i y hi hy
  · rw [List.getElem?_append_right (by omega)] at hy
    have h0 : i - l.length = 0 := by
      rcases hz : i - l.length with _ | k
      · rfl
      · rw [hz] at hy; simp at hy
    rw [h0] at hy
    have hy : x = y := by simpa using hy
    subst hy
    have : i = l.length := by omega
    subst this; exact hx
theorem len_app {α : Type} (l : List α) (x : α) : (l ++ [x]).length = l.length + 1 := by simp
/-- reading stands at a; of the module only section k's places are written since -/
def mT (k : Nat) (τ σ0 σ : zS) (B : Nat) (b : Nat → Nat) (e a : Nat) : Prop := mSt τ σ B b e a ∧ mF k σ0 σ
theorem mT.of {k : Nat} {τ σ : zS} {B : Nat} {b : Nat → Nat} {e a : Nat} (h : mSt τ σ B b e a) : mT k τ σ σ B b e a := ⟨h, mF.rf⟩
theorem mT.at {k : Nat} {τ σ0 σ : zS} {B : Nat} {b : Nat → Nat} {e a a' : Nat} (h : mT k τ σ0 σ B b e a) (ha : a' ≤ e) : mT k τ σ0 (mAt σ (B + a')) B b e a' := ⟨h.1.at ha, h.2.at _⟩
theorem mT.i {k : Nat} {τ σ0 σ : zS} {B : Nat} {b : Nat → Nat} {e a : Nat} (h : mT k τ σ0 σ B b e a) {c j : Nat} (x : Int32) (hz : zown c j = k) (hc : (14 ≤ c ∧ c ≤ 56) ∨ (c = 1 ∧ 2 ≤ j)) : mT k τ σ0 (zsI σ c j x) B b e a :=
  ⟨h.1.i _ (by unfold kpd; omega) (by omega), h.2.i _ (Or.inr hz)⟩
theorem mT.l {k : Nat} {τ σ0 σ : zS} {B : Nat} {b : Nat → Nat} {e a : Nat} (h : mT k τ σ0 σ B b e a) {c j : Nat} (x : Int64) (hz : zown c j = k) (hc : (14 ≤ c ∧ c ≤ 56) ∨ (c = 1 ∧ 2 ≤ j)) : mT k τ σ0 (zsL σ c j x) B b e a :=
  ⟨h.1.l _ (by unfold kpd; omega), h.2.l _ (Or.inr hz)⟩
theorem mT.own {k : Nat} {τ σ0 σ σ' : zS} {B : Nat} {b : Nat → Nat} {e a a' : Nat} (h : mT k τ σ0 σ B b e a) {l : List Nat} (hs : mSt τ σ' B b e a') (ho : mOwn l σ σ') (hl : ∀ i ∈ l, zown 0 i = 0) : mT k τ σ0 σ' B b e a' := ⟨hs, h.2.trans (ho.f hl)⟩
theorem nar_b {n : Nat} (h : n ≤ 1) : vp_nar .boolean (nI n) = nI n := by
  rcases (by omega : n = 0 ∨ n = 1) with rfl | rfl
  · decide
  · decide
theorem sp_global {τ σ : zS} {B : Nat} {b : Nat → Nat} {e a : Nat} {l : List mGlT} {K : zS → Prop} {QX : zS → Prop} (hs : mSt τ σ B b e a) (hr : r6 σ B l)
    (h : mW (if l.length = 32 then .error (4, a) else mGl b e a) (fun r => ∀ σ', mSt τ σ' B b e r.2 → r6 σ' B (l ++ [r.1]) → mF 6 σ σ' → K σ') (mEr τ B QX)) : zCT zZM zmX10_globalLine [.ref 0, .ref 1] σ (zQv K) QX := by
  refine rX10_globalLine ?_
  obtain ⟨hk, hb, hat, hen, hae, he, hB⟩ := id hs
  unfold PX10_globalLine_0
  have c32 : nI l.length = (32 : Int32) ↔ l.length = 32 := nI_eq (b := 32) (by have := hr.2.1; omega) (by decide)
  rw [hr.1, c32, hat]
  rw [mW_ite] at h
  refine ⟨fun q => ?_, fun q => ?_⟩
  · rw [if_pos q] at h
    exact sp_throw (k := 4) hk h
  · rw [if_neg q] at h
    have hl : l.length < 32 := by have := hr.2.1; omega
    unfold mGl at h
    rw [mW_bind] at h
    rw [nI_clamp (by omega)]
    refine sp_type hs (mW_mono h (fun t ht h => ?_) (fun k p _ h => h))
    obtain ⟨t1, t2, t3, t4⟩ := mType_in ht
    refine ⟨vp_in_nI hl (by decide), fun s5 e5 => ?_⟩
    have h5 : mT 6 τ σ s5 B b e t.2 := by rw [e5]; exact ((mT.of hs).at (by omega)).i _ rfl (by omega)
    have n5 : s5.1 1 5 = nI l.length := by rw [e5, zI1, if_neg (by omega), mAt, zI1, if_neg (by omega)]; exact hr.1
    rw [n5, nI_clamp (by omega)]
    rw [mW_bind] at h
    refine sp_flag h5.1 (mW_mono h (fun f hf h => ?_) (fun k p _ h => h))
    obtain ⟨f1, rfl, f3⟩ := mFlag_in hf
    refine ⟨vp_in_nI hl (by decide), fun s8 e8 => ?_⟩
    rw [nar_b f3] at e8
    have h8 : mT 6 τ σ s8 B b e (t.2 + 1) := by rw [e8]; exact (h5.at (by omega)).i _ rfl (by omega)
    have n8 : s8.1 1 5 = nI l.length := by rw [e8, zI1, if_neg (by omega), mAt, zI1, if_neg (by omega)]; exact n5
    rw [n8, nI_clamp (by omega)]
    rw [mW_bind] at h
    refine sp_constant h8.1 (mW_mono h (fun c hc h => ?_) (fun k p _ h => h))
    obtain ⟨d1, d2⟩ := mConst_in hc
    refine ⟨vp_in_nI hl (by decide), fun s11 e11 s12 e12 => ?_⟩
    have h11 : mT 6 τ σ s11 B b e c := by rw [e11]; exact (h8.at (by omega)).i _ rfl (by omega)
    have n11 : s11.1 1 5 = nI l.length := by rw [e11, zI1, if_neg (by omega), mAt, zI1, if_neg (by omega)]; exact n8
    have h12 : mT 6 τ σ s12 B b e c := by rw [e12]; exact h11.i _ rfl (by omega)
    rw [n11, nI_1] at e12
    rw [mW_ok] at h
    refine h s12 h12.1 ⟨?_, ?_, row_app (fun i y hi hy => ?_) ?_⟩ h12.2
    · rw [e12, len_app]; simp [zI1]
    · rw [len_app]; omega
    · have ho := hr.2.2 i y hy
      rw [e12, e11, e8, e5]
      simpa [zI1, mAt, Nat.ne_of_lt hi] using ho
    · rw [e12, e11, e8, e5]
      simp only [zI1, mAt]
      simp
      omega
theorem sp_export {τ σ : zS} {B : Nat} {b : Nat → Nat} {e a : Nat} {l : List mExT} {K : zS → Prop} {QX : zS → Prop} (hs : mSt τ σ B b e a) (hr : r7 σ B l)
    (h : mW (if l.length = 64 then .error (4, a) else mEx b e a) (fun r => ∀ σ', mSt τ σ' B b e r.2 → r7 σ' B (l ++ [r.1]) → mF 7 σ σ' → K σ') (mEr τ B QX)) : zCT zZM zmX10_exportLine [.ref 0, .ref 1] σ (zQv K) QX := by
  refine rX10_exportLine ?_
  obtain ⟨hk, hb, hat, hen, hae, he, hB⟩ := id hs
  unfold PX10_exportLine_0
  have c64 : nI l.length = (64 : Int32) ↔ l.length = 64 := nI_eq (b := 64) (by have := hr.2.1; omega) (by decide)
  rw [hr.1, c64, hat]
  rw [mW_ite] at h
  refine ⟨fun q => ?_, fun q => ?_⟩
  · rw [if_pos q] at h
    exact sp_throw (k := 4) hk h
  · rw [if_neg q] at h
    have hl : l.length < 64 := by have := hr.2.1; omega
    unfold mEx at h
    rw [mW_bind] at h
    rw [nI_clamp (by omega)]
    refine ⟨vp_in_nI hl (by decide), fun s3 e3 => ?_⟩
    have h3 : mT 7 τ σ s3 B b e a := by rw [e3]; exact (mT.of hs).i _ rfl (by omega)
    refine sp_name (short := true) h3.1 rfl (mW_mono h (fun n hn h => ?_) (fun k p _ h => h))
    obtain ⟨m1, m2, m3, m4, m5, m6⟩ := mName_in hn hae
    intro s4 hs4 ho4 e14 e15
    have h4 : mT 7 τ σ s4 B b e n.2 := h3.own hs4 ho4 (by simp [zown])
    refine ⟨vp_in_nI hl (by decide), fun s5 e5 => ⟨vp_in_nI hl (by decide), fun s6 e6 => ?_⟩⟩
    have h5 : mT 7 τ σ s5 B b e n.2 := by rw [e5]; exact h4.i _ rfl (by omega)
    have h6 : mT 7 τ σ s6 B b e n.2 := by rw [e6]; exact h5.i _ rfl (by omega)
    have g15 : s5.1 0 15 = nI n.1.2 := by rw [e5, zI1, if_neg (by omega)]; exact e15
    rw [e14] at e5
    rw [g15] at e6
    rw [mW_bind] at h
    refine sp_octet h6.1 (mW_mono h (fun k hk' h => ?_) (fun k p _ h => h))
    obtain ⟨k1, rfl⟩ := mOct_in hk'
    have hbk := (hb n.2 (by omega)).1
    refine ⟨vp_in_nI hl (by decide), fun s9 e9 => ⟨vp_in_nI hl (by decide), ?_⟩⟩
    have h9 : mT 7 τ σ s9 B b e (n.2 + 1) := by rw [e9]; exact (h6.at (by omega)).i _ rfl (by omega)
    have g9 : s9.1 39 l.length = nI (b n.2) := by rw [e9, zI1, if_pos ⟨rfl, rfl⟩]
    have c3 : nI (b n.2) ≤ (3 : Int32) ↔ b n.2 ≤ 3 := nI_leI (b := 3) (by omega) (by decide)
    rw [g9, c3]
    rw [mW_ite] at h
    refine ⟨fun q => ?_, fun q => ?_⟩
    · rw [if_neg (show ¬ 3 < b n.2 by omega), mW_bind] at h
      refine ⟨vp_in_nI hl (by decide), fun s10 e10 => ?_⟩
      rw [h9.1.2.2.1] at e10
      have h10 : mT 7 τ σ s10 B b e (n.2 + 1) := by rw [e10]; exact h9.i _ rfl (by omega)
      refine sp_u h10.1 (mW_mono h (fun u hu h => ?_) (fun k p _ h => h))
      have u1 := mU_in hu (show n.2 + 1 ≤ e by omega)
      have u2 := mU_lt hu
      refine ⟨vp_in_nI hl (by decide), fun s13 e13 s14 e14' => ?_⟩
      have h13 : mT 7 τ σ s13 B b e u.2 := by rw [e13]; exact (h10.at (by omega)).l _ rfl (by omega)
      have h14 : mT 7 τ σ s14 B b e u.2 := by rw [e14']; exact h13.i _ rfl (by omega)
      have g4 : s4.1 1 6 = nI l.length := by rw [ho4.1 1 6 (by omega), e3, zI1, if_neg (by omega)]; exact hr.1
      have n13 : s13.1 1 6 = nI l.length := by
        rw [e13, e10, e9, e6, e5]
        simpa [zI1, zL1, mAt] using g4
      rw [n13, nI_1] at e14'
      rw [mW_ok] at h
      have f4 : ∀ c i, ¬ c = 0 → s4.1 c i = s3.1 c i ∧ s4.2 c i = s3.2 c i := fun c i hc => ⟨ho4.1 c i (fun z => hc z.1), ho4.2 c i (fun z => hc z.1)⟩
      have r4 : ∀ i y, i < l.length → l[i]? = some y → s4.1 38 i = nI (B + y.1) ∧ s4.1 36 i = nI (B + y.2.1) ∧ s4.1 37 i = nI y.2.2.1 ∧ s4.1 39 i = nI y.2.2.2.1 ∧ s4.1 41 i = nI (B + y.2.2.2.2.1) ∧ s4.2 40 i = lN y.2.2.2.2.2 := fun i y hi hy => by
        have ho := (hr.2.2 i y hy).2.2.2.2.2
        rw [(f4 38 i (by decide)).1, (f4 36 i (by decide)).1, (f4 37 i (by decide)).1, (f4 39 i (by decide)).1, (f4 41 i (by decide)).1, (f4 40 i (by decide)).2, e3]
        simpa [zI1, zI2, Nat.ne_of_lt hi] using ho
      have r38 : s4.1 38 l.length = nI (B + a) := by rw [(f4 38 _ (by decide)).1, e3, zI1, if_pos ⟨rfl, rfl⟩]
      refine h s14 h14.1 ⟨?_, ?_, row_app (fun i y hi hy => ?_) ?_⟩ h14.2
      · rw [e14', len_app]; simp [zI1]
      · rw [len_app]; omega
      · obtain ⟨o1, o2, o3, o4, o5, _⟩ := hr.2.2 i y hy
        refine ⟨o1, o2, o3, o4, o5, ?_⟩
        have ho := r4 i y hi hy
        rw [e14', e13, e10, e9, e6, e5]
        simpa [zI1, zI2, zL1, zL2, mAt, Nat.ne_of_lt hi] using ho
      · refine ⟨by show a < 16000; omega, by show n.1.1 + n.1.2 ≤ 16000; omega, q, by show n.2 + 1 < 16000; omega, u2, ?_⟩
        rw [e14', e13, e10, e9, e6, e5]
        simpa [zI1, zI2, zL1, zL2, mAt] using r38
    · rw [if_pos (by omega)] at h
      rw [h6.1.2.2.1]
      exact sp_throw (k := 1) h9.1.1 h
