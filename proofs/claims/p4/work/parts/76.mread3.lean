/-! the reference's read, whole -/
theorem sp_read130 {τ s : zS} {B : Nat} {b : Nat → Nat} {e m : Nat} {x2 x3 x4 : Int32} {K : zS → Prop} {QX : zS → Prop} {K57 K103 : Int32 → zS → Prop} {K130 : Int32 → Int32 → Int32 → zS → Prop}
    (h1 : τ.1 1 1 = nI (B + e)) (he : e ≤ 16000)
    (hord : ∀ (id : Nat) (σ : zS) (K : Int32 → zS → Prop), id < 256 → K (nI (mOrd id) - (1 : Int32)) σ → zCT zZM zmX10_orderOf [.int (nI id)] σ (zQi K) QX)
    (hK : ∀ f, f < m → ∀ x2 x3 x4 σ, rI130 τ B b e K QX f x2 x3 x4 σ → K130 x2 x3 x4 σ)
    (hI : rI130 τ B b e K QX m x2 x3 x4 s) : PX10_read_130 K57 K103 K130 (zQv K) QX x2 x3 x4 s := by
  obtain ⟨last, A, p, bd, dt, rfl, hl, rfl, rfl, hfe, hfm, hs, hrep, hinv, h⟩ := hI
  have hpe := hs.2.2.2.2.1
  have hB := hs.2.2.2.2.2.2
  obtain ⟨f, rfl⟩ : ∃ z, m = z + 1 := ⟨m - 1, by omega⟩
  have g11 : s.1 1 1 = nI (B + e) := by rw [(hs.1 1 1 (by unfold kpd; omega)).1]; exact h1
  have ce : nI (B + e) ≤ nI (B + p) ↔ e ≤ p := by rw [nI_leI (by omega) (by omega)]; omega
  have hF := mRep_F hrep
  have hT := mRep_19 hrep
  unfold PX10_read_130
  rw [g11, hs.2.2.1, ce]
  rw [mSecsS] at h
  refine ⟨fun q => ?_, fun q => ?_⟩
  · rw [if_pos (by omega), mW_ite] at h
    have w415 : (mNoFit A 10 = true ∨ mNoFit A 11 = true) → PX10_read_415 K57 K103 K130 (zQv K) QX s := fun z => by
      rw [if_pos z] at h
      unfold PX10_read_415
      rw [hs.2.2.2.1]
      exact sp_throw (k := 1) hs.1 h
    have done : mNoFit A 10 = false → mNoFit A 11 = false → K s := fun z1 z2 => by
      rw [if_neg (by rw [z1, z2]; decide)] at h
      have hp : p = e := by omega
      rw [hp] at hs
      exact h s hs hrep
    have w401 : mNoFit A 10 = false → PX10_read_401 K57 K103 K130 (zQv K) QX (bI dt) s := fun z => by
      unfold PX10_read_401
      have c0 : s.2 0 19 ≤ (0 : Int64) ↔ toldN (aC A) ≤ 0 := by rw [hT.1]; exact lN_leB (b := 0) (by have := hT.2; omega) (by decide)
      rw [bI_0, c0]
      have nd : dt = false → (mNoFit A 11 = false ↔ toldN (aC A) ≤ 0) := fun y => by
        rw [noFit11, hinv.2.2.2.2.2.1 y]
        cases hc : aC A with
        | none => simp [toldN]
        | some n => simp [toldN]; omega
      refine ⟨fun y => ⟨fun q1 => done z ((nd y).mpr q1), fun q1 => w415 (Or.inr ?_)⟩, fun y => done z (hinv.2.2.2.2.2.2.2 (by cases dt <;> simp_all))⟩
      cases hn : mNoFit A 11 with
      | true => rfl
      | false => exact absurd ((nd y).mp hn) q1
    have cF : (0 : Int32) < s.1 1 4 ↔ 0 < (aF A).length := by rw [hF.1]; exact nI_ltI (a := 0) (by decide) (by omega)
    rw [bI_0, cF]
    have nb : bd = false → (mNoFit A 10 = true ↔ 0 < (aF A).length) := fun y => by
      rw [noFit10, hinv.2.2.1 y]
      simp
      omega
    refine ⟨fun y => ⟨fun q1 => w415 (Or.inl ((nb y).mpr q1)), fun q1 => w401 ?_⟩, fun y => w401 (hinv.2.2.2.2.1 (by cases bd <;> simp_all))⟩
    cases hn : mNoFit A 10 with
    | false => rfl
    | true => exact absurd ((nb y).mp hn) q1
  · rw [if_neg (by omega), mW_ite] at h
    have hbp := (hs.2.1 p (by omega)).1
    have hs1 : mSt τ (mAt s (B + (p + 1))) B b e (p + 1) := hs.at (by omega)
    have hrep1 : mRep (mAt s (B + (p + 1))) B A := mRep_at hrep
    refine sp_octet hs ?_
    rw [mOct, if_pos (by omega)]
    show (_ : Prop)
    have c0 : nI (b p) = (0 : Int32) ↔ b p = 0 := nI_eq (b := 0) (by omega) (by decide)
    have hKf := hK f (Nat.lt_succ_self f)
    show (nI (b p) = 0 → _) ∧ (¬ nI (b p) = 0 → _)
    rw [c0]
    refine ⟨fun q0 => ⟨fun _ => ?_, fun y => absurd q0 y⟩, fun q0 => ?_⟩
    · have hgo : ¬ (¬ b p = 0 ∧ mOrd (b p) ≤ last) := fun y => y.1 q0
      rw [if_neg hgo] at h
      have w := sp_read188 (K57 := K57) (K103 := K103) (K130 := K130) h1 hs1 hrep1 (by omega) (by omega) hl hinv hbp hgo hKf h
      rw [if_pos q0] at w
      exact w
    · refine hord (b p) _ _ hbp ?_
      rw [ord_lt last hl (mOrd (b p)) (mOrd_f (b p) hbp).1]
      refine ⟨fun y => absurd y q0, fun _ => ⟨fun q1 => ?_, fun q1 => ?_⟩⟩
      · have hgo : ¬ (¬ b p = 0 ∧ mOrd (b p) ≤ last) := fun y => by omega
        rw [if_neg hgo] at h
        have w := sp_read188 (K57 := K57) (K103 := K103) (K130 := K130) h1 hs1 hrep1 (by omega) (by omega) hl hinv hbp hgo hKf h
        rw [if_neg q0] at w
        exact w
      · rw [if_pos ⟨q0, by omega⟩] at h
        exact sp_throw (k := 1) hs1.1 h
/-- the counts are empty -/
def clr (s : zS) : Prop := s.1 1 2 = 0 ∧ s.1 1 3 = 0 ∧ s.1 1 4 = 0 ∧ s.1 1 5 = 0 ∧ s.1 1 6 = 0 ∧ s.1 1 7 = 0 ∧ s.1 1 8 = 0 ∧ s.1 1 9 = 0 ∧ s.1 1 10 = -1 ∧ s.1 1 12 = 0 ∧ s.1 1 13 = 0
theorem mRep_clr {s : zS} {B : Nat} (h : clr s) (h55 : ∀ i, i < 4 → s.1 55 i = 0) (h18 : s.1 0 18 = 0) (h19 : s.2 0 19 = 0) : mRep s B m0 := by
  obtain ⟨c2, c3, c4, c5, c6, c7, c8, c9, c10, c12, c13⟩ := h
  refine ⟨⟨c2, by decide, ?_, ?_⟩, ⟨c3, by decide, ?_, ?_⟩, ⟨c4, by decide, ?_⟩, ⟨c12, by decide, ?_, ?_⟩, ⟨c13, by decide, ?_, ?_⟩, ⟨c5, by decide, ?_⟩, ⟨c6, by decide, ?_⟩, c10, ⟨c7, by decide, ?_⟩, ⟨h18, h19⟩, ⟨c9, by decide, ?_⟩, ⟨c8, by decide, ?_⟩⟩
  · intro s hs; cases hs
  · intro i hi; exact absurd hi (Nat.not_lt_zero _)
  · intro i hi; exact absurd hi (Nat.not_lt_zero _)
  · intro k hk; exact ⟨h55 k hk, fun j hj => absurd hj (Nat.not_lt_zero _)⟩
  · intro i x hx; cases hx
  · intro x hx; cases hx
  · intro x hx; cases hx
  · intro x hx; cases hx
  · intro x hx; cases hx
  · intro i x hx; cases hx
  · intro i x hx; cases hx
  · intro i x hx; cases hx
  · intro i x _ hx; cases hx
  · intro i x hx; cases hx
theorem sp_read {τ : zS} {B : Nat} {b : Nat → Nat} {e : Nat} {K : zS → Prop} {QX : zS → Prop} (h0 : τ.1 1 0 = nI B) (h1 : τ.1 1 1 = nI (B + e)) (he : e ≤ 16000) (hB : B ≤ 16000) (hb : ∀ j, j < 16000 → b j < 256 ∧ τ.1 4 (B + j) = sb_b (b j))
    (hord : ∀ (id : Nat) (σ : zS) (K : Int32 → zS → Prop), id < 256 → K (nI (mOrd id) - (1 : Int32)) σ → zCT zZM zmX10_orderOf [.int (nI id)] σ (zQi K) QX)
    (h : mW (mRead b e) (fun A => ∀ σ', mSt τ σ' B b e e → mRep σ' B A → K σ') (mEr τ B QX)) : zCT zZM zmX10_read [.ref 0, .ref 1] τ (zQv K) QX := by
  refine rX10_read
    (fun m x2 s => ∃ k, m + k = 4 + 2 ^ 17 ∧ k ≤ 4 ∧ x2 = nI k ∧ mKeep τ s ∧ clr s ∧ ∀ i, i < k → s.1 55 i = 0)
    (fun m x2 s => ∃ k n, m = n + 2 ^ 16 ∧ n + k = 8 ∧ x2 = nI k ∧ mSt τ s B b e k ∧ mRep s B m0 ∧ mW ((mHead b e n k).bind fun a => mSecs b e (e + 1) 0 m0 a) (fun A => ∀ σ', mSt τ σ' B b e e → mRep σ' B A → K σ') (mEr τ B QX))
    (fun m x2 x3 x4 s => rI130 τ B b e K QX m x2 x3 x4 s) ?_ ?_ ?_ ?_
  · rintro m x2 s ⟨k, hm, hk4, rfl, hk, hc, h55⟩
    unfold PX10_read_57
    have c4 : (4 : Int32) ≤ nI k ↔ 4 ≤ k := nI_leI (a := 4) (by decide) (by omega)
    rw [c4]
    refine ⟨fun q => ⟨Or.inl rfl, fun s1 e1 s2 e2 s3 e3 s4 e4 => ?_⟩, fun q => ⟨vp_in_nI (by omega) (by decide), fun s5 e5 => ?_⟩⟩
    · have g0 : s2.1 1 0 = nI B := by rw [e2, e1, zL1, zI1, if_neg (by omega), (hk 1 0 (by unfold kpd; omega)).1]; exact h0
      rw [g0] at e3
      have g1 : s3.1 1 1 = nI (B + e) := by rw [e3, zI1, if_neg (by omega), e2, e1, zL1, zI1, if_neg (by omega), (hk 1 1 (by unfold kpd; omega)).1]; exact h1
      rw [g1] at e4
      have k4 : mKeep τ s4 := by
        rw [e4, e3, e2, e1]
        exact (((hk.i _ (by unfold kpd; omega)).l _ (by unfold kpd; omega)).i _ (by unfold kpd; omega)).i _ (by unfold kpd; omega)
      have hs4 : mSt τ s4 B b e 0 := by
        refine ⟨k4, fun j hj => ⟨(hb j hj).1, ?_⟩, ?_, ?_, Nat.zero_le _, he, hB⟩
        · rw [(k4 4 (B + j) (by unfold kpd; omega)).1]; exact (hb j hj).2
        · rw [e4, zI1, if_neg (by omega), e3, zI1, if_pos ⟨rfl, rfl⟩]; rfl
        · rw [e4, zI1, if_pos ⟨rfl, rfl⟩]
      have hrep4 : mRep s4 B m0 := by
        refine mRep_clr ?_ (fun i hi => ?_) ?_ ?_
        · unfold clr at hc ⊢
          rw [e4, e3, e2, e1]
          simpa [zI1, zL1] using hc
        · rw [e4, e3, e2, e1]
          simpa [zI1, zL1] using h55 i (by omega)
        · rw [e4, e3, e2, e1]
          simp [zI1, zL1]
        · rw [e4, e3, e2, e1]
          simp [zI2, zL2]
      exact ⟨8 + 2 ^ 16, by show 8 + 2 ^ 16 < m; omega, 0, 8, rfl, rfl, rfl, hs4, hrep4, h⟩
    · rw [nI_clamp (by omega)] at e5
      refine ⟨m - 1, by show m - 1 < m; omega, k + 1, by omega, by omega, nI_1 k, ?_, ?_, fun i hi => ?_⟩
      · rw [e5]; exact hk.i _ (by unfold kpd; omega)
      · unfold clr at hc ⊢
        rw [e5]
        simpa [zI1] using hc
      · rw [e5, zI1]
        by_cases y : i = k
        · rw [if_pos ⟨rfl, y⟩]
        · rw [if_neg (fun z => y z.2)]; exact h55 i (by omega)
  · rintro m x2 s ⟨k, n, rfl, hn, rfl, hs, hrep, hw⟩
    unfold PX10_read_103
    have c8 : (8 : Int32) ≤ nI k ↔ 8 ≤ k := nI_leI (a := 8) (by decide) (by omega)
    rw [c8]
    refine ⟨fun q => ?_, fun q => ?_⟩
    · have : n = 0 := by omega
      subst this
      have hk8 : k = 8 := by omega
      subst hk8
      have hw : mW (mSecs b e (e + 1) 0 m0 8) (fun A => ∀ σ', mSt τ σ' B b e e → mRep σ' B A → K σ') (mEr τ B QX) := hw
      refine ⟨e + 1, by show e + 1 < 0 + 2 ^ 16; omega, 0, m0, 8, false, false, rfl, by decide, rfl, rfl, by omega, by omega, hs, hrep, ?_, hw⟩
      exact ⟨fun _ => rfl, fun _ => rfl, fun _ => rfl, fun _ => rfl, (fun z => by cases z), fun _ => rfl, fun _ => rfl, (fun z => by cases z)⟩
    · obtain ⟨n', rfl⟩ : ∃ z, n = z + 1 := ⟨n - 1, by omega⟩
      have hw : mW (((mNeed b e (hdr k) k).bind fun r => mHead b e n' r).bind fun a => mSecs b e (e + 1) 0 m0 a) (fun A => ∀ σ', mSt τ σ' B b e e → mRep σ' B A → K σ') (mEr τ B QX) := hw
      rw [Except_bind_assoc, mW_bind] at hw
      refine sp_headerAt (by omega) ?_
      refine sp_needOctet hs (hdr_lt k (by omega)) (mW_mono hw (fun r hr hw => ?_) (fun k p _ h => h))
      obtain ⟨z1, rfl, z3⟩ := mNeed_in hr
      exact ⟨n' + 2 ^ 16, by show n' + 2 ^ 16 < n' + 1 + 2 ^ 16; omega, k + 1, n', rfl, by omega, nI_1 k, hs.at (by omega), mRep_at hrep, hw⟩
  · intro m x2 x3 x4 s hI
    exact sp_read130 h1 he hord (fun f hf x2 x3 x4 σ hI => ⟨f, hf, hI⟩) hI
  · unfold PX10_read_0
    intro s1 e1 s2 e2 s3 e3 s4 e4 s5 e5 s6 e6 s7 e7 s8 e8 s9 e9 s10 e10 s11 e11
    refine ⟨4 + 2 ^ 17, trivial, 0, rfl, by decide, rfl, ?_, ?_, fun i hi => absurd hi (Nat.not_lt_zero _)⟩
    · rw [e11, e10, e9, e8, e7, e6, e5, e4, e3, e2, e1]
      exact ((((((((((mKeep.rf.i _ (by unfold kpd; omega)).i _ (by unfold kpd; omega)).i _ (by unfold kpd; omega)).i _ (by unfold kpd; omega)).i _ (by unfold kpd; omega)).i _ (by unfold kpd; omega)).i _ (by unfold kpd; omega)).i _ (by unfold kpd; omega)).i _ (by unfold kpd; omega)).i _ (by unfold kpd; omega)).i _ (by unfold kpd; omega)
    · unfold clr
      rw [e11, e10, e9, e8, e7, e6, e5, e4, e3, e2, e1]
      simp [zI1]
