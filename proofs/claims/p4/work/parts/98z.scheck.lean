/-! THE CLASS, any state: check, and the answers of what is kept -/
def sQ (σ s : zS) : Prop := ∀ c i, (c = 0 ∨ c = 9 ∨ c = 10 ∨ (c = 1 ∧ i = 1) ∨ (33 ≤ c ∧ c ≤ 37)) → s.1 c i = σ.1 c i
theorem sQ.rf {σ : zS} : sQ σ σ := fun _ _ _ => rfl
theorem sQ.trans {σ s u : zS} (h : sQ σ s) (h2 : sQ s u) : sQ σ u := fun c i a => (h2 c i a).trans (h c i a)
theorem sR.q {σ s : zS} (h : sR σ s) : sQ σ s := fun c i a => (h.1.1 c i (by omega)).1
theorem sQ.i {σ s : zS} (h : sQ σ s) {c j : Nat} (x : Int32) (hc : ¬ (c = 0 ∨ c = 9 ∨ c = 10 ∨ (c = 1 ∧ j = 1) ∨ (33 ≤ c ∧ c ≤ 37))) : sQ σ (zsI s c j x) :=
  fun a i ha => by rw [zI1, if_neg (by omega)]; exact h a i ha
/-- the sections' counts are at most B -/
def sB (B : Int) (s : zS) : Prop := ∀ i, i < 13 → 0 ≤ (s.1 18 i).toInt ∧ (s.1 18 i).toInt ≤ B
theorem sR.b {B : Int} {σ s : zS} (h : sR σ s) (hb : sB B σ) : sB B s := fun i hi => by rw [(h.1.1 18 i (by omega)).1]; exact hb i hi
theorem sf_X6_begin {σ : zS} {K : zS → Prop} {QX : zS → Prop} (hv : sV σ) (h : ∀ s, sQ σ s → sV s → sB 0 s → K s) : zCT zZC zmX6_begin [.ref 3] σ (zQv K) QX := by
  refine rX6_begin (fun m x1 s => sQ σ s ∧ sV s ∧ sB 0 s ∧ 0 ≤ x1.toInt ∧ m = (2147483648 - x1.toInt).toNat) ?_ ?_
  · rintro m x1 τ ⟨q0, v0, b0, hx, rfl⟩
    unfold PX6_begin_28
    refine ⟨fun _ => h _ q0 v0 b0, fun c => ⟨vp_lh hx (vh_1 c) (by decide), vp_lh hx (vh_1 c) (by decide), ?_⟩⟩
    refine sf_X4_octetWithin v0 (fun r2 s1 k => ?_)
    exact ⟨_, (inc_1 c hx).2, q0.trans k.q, k.2, k.b b0, (inc_1 c hx).1, rfl⟩
  · unfold PX6_begin_0
    refine rX4_restart ?_
    unfold PX4_restart_0
    intro s1 e1 s2 e2 s3 e3 s4 e4
    have g4 : ∀ c i, ¬ c = 1 → s4.1 c i = σ.1 c i := fun c i hc => by
      rw [e4, zI1, if_neg (by omega), e3, zI1, if_neg (by omega), e2, zI1, if_neg (by omega), e1, zI1, if_neg (by omega)]
    have q4 : sQ σ s4 := by
      rw [e4, e3, e2, e1]
      exact (((sQ.rf.i _ (by omega)).i _ (by omega)).i _ (by omega)).i _ (by omega)
    refine sc_clear (fun s5 h5 => ?_)
    have g5 : ∀ c i, ¬ c = 1 → ¬ c = 2 → ¬ c = 17 → ¬ c = 18 → s5.1 c i = σ.1 c i := fun c i a1 a2 a3 a4 => (h5.1 c i a2 a3 a4).1.trans (g4 c i a1)
    have q5 : sQ σ s5 := fun c i hc => (h5.1 c i (by omega) (by omega) (by omega)).1.trans (q4 c i hc)
    have b5 : sB 0 s5 := fun i hi => by rw [h5.2.2.1 i hi]; decide
    obtain ⟨v1, v2, v3, v4, v5, v6, v8, v7⟩ := hv
    have v5 : sV s5 := by
      refine ⟨?_, ?_, ?_, ?_, ?_, ?_, ?_, fun i => ?_⟩
      · rw [h5.2.2.2.1 8 (by decide) (by decide)]; decide
      · rw [h5.2.2.2.1 12 (by decide) (by decide)]; decide
      · rw [g5 7 3 (by decide) (by decide) (by decide) (by decide)]; exact v3
      · rw [g5 5 7 (by decide) (by decide) (by decide) (by decide)]; exact v4
      · exact (b5 1 (by decide)).1
      · exact (b5 7 (by decide)).1
      · rw [g5 5 5 (by decide) (by decide) (by decide) (by decide)]; exact v8
      · rw [g5 32 i (by decide) (by decide) (by decide) (by decide)]; exact v7 i
    refine sf_X1_begin v5 (fun s6 k6 s7 e7 => ?_)
    have k7 : sR s5 s7 := by rw [e7]; exact k6.i _ (by omega)
    exact ⟨_, trivial, q5.trans k7.q, k7.2, k7.b b5, by decide, rfl⟩
theorem sf_X6_readSection {σ : zS} {B : Int} {K : zS → Prop} {QX : zS → Prop} (hv : sV σ) (hb : sB B σ) (hB : B ≤ 1000000000) (h : ∀ s, sQ σ s → sV s → sB (B + 16000) s → K s) : zCT zZC zmX6_readSection [.ref 3] σ (zQv K) QX := by
  refine rX6_readSection (fun m x1 _ x3 x4 s => sQ σ s ∧ sV s ∧ sB (B + x4.toInt) s ∧ (0 ≤ x1.toInt ∧ x1.toInt < 13) ∧ x3.toInt ≤ 16000 ∧ 0 ≤ x4.toInt ∧ x4.toInt ≤ 16000 ∧ m = (2147483648 - x4.toInt).toNat) ?_ ?_
  · rintro m x1 x2 x3 x4 τ ⟨q0, v0, b0, ⟨l1, l2⟩, hx3, hx, hx4, rfl⟩
    have v13 : vp_in x1 13 := vp_lh l1 (by rw [Int32.lt_iff_toInt_lt, nI_toInt (by decide)]; exact l2) (by decide)
    have k0 : sR τ τ := ⟨sK.rf, v0⟩
    unfold PX6_readSection_35
    have j258 : ∀ s, sR τ s → PX6_readSection_258 (fun y1 y2 y3 y4 σ_1 => ∃ n', zlt n' (some (2147483648 - x4.toInt).toNat) ∧ sQ σ σ_1 ∧ sV σ_1 ∧ sB (B + y4.toInt) σ_1 ∧ (0 ≤ y1.toInt ∧ y1.toInt < 13) ∧ y3.toInt ≤ 16000 ∧ 0 ≤ y4.toInt ∧ y4.toInt ≤ 16000 ∧ n' = (2147483648 - y4.toInt).toNat) (zQv K) QX x1 x2 s := by
      intro s k
      unfold PX6_readSection_258
      refine sf_X4_leave k.2 (fun s1 k1 => sf_X6_fit k1.2 (fun s2 k2 => ?_))
      have k3 := (k.trans k1).trans k2
      refine h _ (q0.trans k3.q) k3.2 (fun i hi => ?_)
      have := (k3.b b0) i hi
      exact ⟨this.1, by omega⟩
    refine ⟨fun _ => j258 _ k0, fun c => ⟨fun _ => ⟨v13, ?_⟩, fun _ => j258 _ k0⟩⟩
    have j239 : ∀ s, sR τ s → PX6_readSection_239 (fun y1 y2 y3 y4 σ_1 => ∃ n', zlt n' (some (2147483648 - x4.toInt).toNat) ∧ sQ σ σ_1 ∧ sV σ_1 ∧ sB (B + y4.toInt) σ_1 ∧ (0 ≤ y1.toInt ∧ y1.toInt < 13) ∧ y3.toInt ≤ 16000 ∧ 0 ≤ y4.toInt ∧ y4.toInt ≤ 16000 ∧ n' = (2147483648 - y4.toInt).toNat) (zQv K) QX x1 x2 x3 x4 s := by
      intro s k
      unfold PX6_readSection_239
      refine ⟨v13, v13, fun s1 e1 => ?_⟩
      rw [Int32.le_iff_toInt_le] at c
      have e4 : (x4 + 1).toInt = x4.toInt + 1 := inc_n hx (by omega)
      have hb1 := k.b b0
      have hb2 : sB (B + (x4 + 1).toInt) s1 := by
        intro i hi
        rw [e1, zI1, e4]
        by_cases q : i = x1.toNatClampNeg
        · rw [if_pos ⟨rfl, q⟩]
          have h3 := hb1 x1.toNatClampNeg (by rw [← q]; exact hi)
          rw [inc_n h3.1 (by omega)]
          omega
        · rw [if_neg (by omega)]
          have h3 := hb1 i hi
          omega
      have hq : sQ σ s1 := by rw [e1]; exact (q0.trans k.q).i _ (by omega)
      obtain ⟨v1, v2, v3, v4, v5, v6, v8, v7⟩ := k.2
      have hv1 : sV s1 := by
        refine ⟨?_, ?_, ?_, ?_, (hb2 1 (by decide)).1, (hb2 7 (by decide)).1, ?_, fun i => ?_⟩
        · rw [e1, zI1, if_neg (by omega)]; exact v1
        · rw [e1, zI1, if_neg (by omega)]; exact v2
        · rw [e1, zI1, if_neg (by omega)]; exact v3
        · rw [e1, zI1, if_neg (by omega)]; exact v4
        · rw [e1, zI1, if_neg (by omega)]; exact v8
        · rw [e1, zI1, if_neg (by omega)]; exact v7 i
      exact ⟨_, (by show (2147483648 - (x4 + 1).toInt).toNat < (2147483648 - x4.toInt).toNat; rw [e4]; omega), hq, hv1, hb2, ⟨l1, l2⟩, hx3, by rw [e4]; omega, by rw [e4]; omega, rfl⟩
    refine sf_X6_refuseBeyond v0 (fun s1 k1 => ?_)
    refine ⟨fun _ => sf_X6_readSignature k1.2 (fun s k => j239 s (k1.trans k)), fun _ => ?_⟩
    refine ⟨fun _ => sf_X6_readImport k1.2 (fun s k => j239 s (k1.trans k)), fun _ => ?_⟩
    refine ⟨fun _ => sf_X6_readSignatureOfFunction k1.2 (fun s k => j239 s (k1.trans k)), fun _ => ?_⟩
    refine ⟨fun _ => sf_X6_readTable k1.2 (fun s k => j239 s (k1.trans k)), fun _ => ?_⟩
    refine ⟨fun _ => sf_X6_readMemory k1.2 (fun s k => j239 s (k1.trans k)), fun _ => ?_⟩
    refine ⟨fun _ => sf_X6_readGlobal k1.2 (fun s k => j239 s (k1.trans k)), fun _ => ?_⟩
    refine ⟨fun _ => sf_X6_readExport k1.2 (fun s k => j239 s (k1.trans k)), fun _ => ?_⟩
    refine ⟨fun _ => sf_X6_readStart k1.2 (fun s k => j239 s (k1.trans k)), fun _ => ?_⟩
    refine ⟨fun _ => sf_X6_readElement k1.2 (fun s k => j239 s (k1.trans k)), fun _ => ?_⟩
    refine ⟨fun _ => sf_X1_readBody k1.2 (fun s k => j239 s (k1.trans k)), fun _ => ?_⟩
    refine ⟨fun _ => sf_X6_readData k1.2 (fun s k => j239 s (k1.trans k)), fun _ => ?_⟩
    refine ⟨fun _ => sf_X4_number k1.2 (fun r s _ k s15 e15 => j239 s15 (by rw [e15]; exact (k1.trans k).l _ (by omega))), fun _ => ?_⟩
    exact sf_X4_name k1.2 (fun _ s k => sf_X4_skipRest k.2 (fun s2 k2 => j239 s2 ((k1.trans k).trans k2)))
  · unfold PX6_readSection_0
    refine sf_X6_readSectionNumber hv (fun r2 s1 p1 k1 => ?_)
    refine sf_X4_enter k1.2 (fun r4 s3 k3 => ?_)
    have k4 := k1.trans k3
    refine sf_X6_isRow k4.2 (fun r6 s5 _ k5 => ?_)
    have k6 := k4.trans k5
    have z0 : B + (0 : Int32).toInt = B := by rw [i0]; omega
    refine ⟨fun _ => ⟨_, trivial, k6.q, k6.2, by rw [z0]; exact k6.b hb, p1, by decide, by decide, by decide, rfl⟩, fun _ => ?_⟩
    refine sf_X4_rowLength k6.2 (fun r8 s7 p8 k7 => ?_)
    have k8 := k6.trans k7
    exact ⟨_, trivial, k8.q, k8.2, by rw [z0]; exact k8.b hb, p1, p8, by decide, by decide, rfl⟩
theorem cl_ok (v : Int32) : ¬ (if (0 : Int32) < (if (nI 16000) < v then (nI 16000) else v) then (if (nI 16000) < v then (nI 16000) else v) else (0 : Int32)) < 0 ∧ (if (0 : Int32) < (if (nI 16000) < v then (nI 16000) else v) then (if (nI 16000) < v then (nI 16000) else v) else (0 : Int32)).toNatClampNeg ≤ 16000 := by
  by_cases q : nI 16000 < v
  · rw [if_pos q]
    decide
  · rw [if_neg q]
    by_cases q2 : (0 : Int32) < v
    · rw [if_pos q2]
      rw [Int32.lt_iff_toInt_lt, nI_toInt (by decide)] at q
      rw [Int32.lt_iff_toInt_lt, i0] at q2
      refine ⟨fun z => ?_, ?_⟩
      · rw [Int32.lt_iff_toInt_lt, i0] at z; omega
      · have : v.toNatClampNeg = v.toInt.toNat := rfl
        omega
    · rw [if_neg q2]
      decide
theorem zC1 {σ : zS} {a b n c i : Nat} (h : ¬ c = b) : (zsC σ a b n).1 c i = σ.1 c i := by rw [(zsC_ne c h).1]
theorem sf_X0_copy {σ : zS} {K : zS → Prop} {QX : zS → Prop} (hv : sV σ) (h : ∀ s, (∀ c i, ¬ c = 9 → ¬ (33 ≤ c ∧ c ≤ 37) → s.1 c i = σ.1 c i) → K s) : zCT zZC zmX0_copy [.ref 9, .ref 8] σ (zQv K) QX := by
  refine rX0_copy ?_
  unfold PX0_copy_0
  refine ⟨rfl, rfl, by decide, by decide, by decide, fun _ _ => rfl, fun s1 e1 => ⟨rfl, rfl, by decide, by decide, by decide, fun _ _ => rfl, fun s2 e2 => ⟨rfl, rfl, by decide, by decide, by decide, fun _ _ => rfl, fun s3 e3 => ⟨rfl, rfl, by decide, by decide, by decide, fun _ _ => rfl, fun s4 e4 s5 e5 => ?_⟩⟩⟩⟩
  have g4 : ∀ c i, ¬ (33 ≤ c ∧ c ≤ 37) → s4.1 c i = σ.1 c i := fun c i hc => by
    rw [e4, zC1 (by omega), e3, zC1 (by omega), e2, zC1 (by omega), e1, zC1 (by omega)]
  have g5 : ∀ c i, ¬ c = 9 → ¬ (33 ≤ c ∧ c ≤ 37) → s5.1 c i = σ.1 c i := fun c i h9 hc => by
    rw [e5, zI1, if_neg (by omega)]; exact g4 c i hc
  have n9 := cl_ok (s4.1 8 5)
  have m9 : s5.1 9 5 = (if (0 : Int32) < (if (nI 16000) < (s4.1 8 5) then (nI 16000) else (s4.1 8 5)) then (if (nI 16000) < (s4.1 8 5) then (nI 16000) else (s4.1 8 5)) else (0 : Int32)) := by rw [e5, zI1, if_pos ⟨rfl, rfl⟩]
  rw [← m9] at n9
  refine ⟨rfl, rfl, n9.1, n9.2, n9.2, fun i _ => by rw [g5 32 i (by decide) (by decide)]; exact hv.2.2.2.2.2.2.2 i, fun s6 e6 s7 e7 => ⟨Or.inr rfl, fun s8 e8 => h s8 (fun c i h9 hc => ?_)⟩⟩
  rw [e8, zI1, if_neg (by omega), e7, zI1, if_neg (by omega), e6, zC1 (by omega)]
  exact g5 c i h9 hc
theorem sf_check {σ : zS} {K : Int32 → zS → Prop} {QX : zS → Prop} (hv : sV σ) (h : ∀ r s, s.1 1 1 = 0 → s.1 0 5 = σ.1 0 5 → sV s → K r s) : zCT zZC zmX8_check [.ref 0] σ (zQi K) QX := by
  refine rX8_check (fun m x1 s => sQ σ s ∧ sV s ∧ 0 ≤ x1.toInt ∧ sB (16000 * x1.toInt) s ∧ m = (2147483648 - x1.toInt).toNat) ?_ ?_
  · rintro m x1 τ ⟨q0, v0, hx, b0, rfl⟩
    unfold PX8_check_9
    have j101 : ∀ (r : Int32) (s : zS), s.1 1 1 = 0 → s.1 0 5 = σ.1 0 5 → sV s → PX8_check_101 (fun y1 σ_1 => ∃ n', zlt n' (some (2147483648 - x1.toInt).toNat) ∧ sQ σ σ_1 ∧ sV σ_1 ∧ 0 ≤ y1.toInt ∧ sB (16000 * y1.toInt) σ_1 ∧ n' = (2147483648 - y1.toInt).toNat) (zQi K) QX r s := by
      intro r s n1 n5 v
      unfold PX8_check_101
      refine ⟨fun _ => ?_, fun _ => h r s n1 n5 v⟩
      refine sf_X0_fillCounts v (fun s1 k1 => sf_X0_copy k1.2 (fun s2 k2 => h r s2 ?_ ?_ ?_))
      · rw [k2 1 1 (by decide) (by decide), (k1.1.1 1 1 (by omega)).1]; exact n1
      · rw [k2 0 5 (by decide) (by decide), (k1.1.1 0 5 (by omega)).1]; exact n5
      · obtain ⟨v1, v2, v3, v4, v5, v6, v8, v7⟩ := k1.2
        refine ⟨?_, ?_, ?_, ?_, ?_, ?_, ?_, fun i => ?_⟩
        · rw [k2 _ _ (by decide) (by decide)]; exact v1
        · rw [k2 _ _ (by decide) (by decide)]; exact v2
        · rw [k2 _ _ (by decide) (by decide)]; exact v3
        · rw [k2 _ _ (by decide) (by decide)]; exact v4
        · rw [k2 _ _ (by decide) (by decide)]; exact v5
        · rw [k2 _ _ (by decide) (by decide)]; exact v6
        · rw [k2 _ _ (by decide) (by decide)]; exact v8
        · rw [k2 _ _ (by decide) (by decide)]; exact v7 i
    have j39 : ∀ s, sR τ s → PX8_check_39 (fun y1 σ_1 => ∃ n', zlt n' (some (2147483648 - x1.toInt).toNat) ∧ sQ σ σ_1 ∧ sV σ_1 ∧ 0 ≤ y1.toInt ∧ sB (16000 * y1.toInt) σ_1 ∧ n' = (2147483648 - y1.toInt).toNat) (zQi K) QX s := by
      intro s k
      unfold PX8_check_39
      refine sf_X6_finish k.2 (fun s1 k1 s2 e2 s3 e3 => ?_)
      have k2 := k.trans k1
      have n1 : s3.1 1 1 = 0 := by rw [e3, zI1, if_neg (by omega), e2, zI1, if_pos ⟨rfl, rfl⟩]
      have n5 : s3.1 0 5 = σ.1 0 5 := by
        rw [e3, zI1, if_neg (by omega), e2, zI1, if_neg (by omega)]
        exact (q0.trans k2.q) 0 5 (by omega)
      have g : ∀ c i, ¬ c = 0 → ¬ c = 1 → s3.1 c i = s1.1 c i := fun c i h0 h1 => by
        rw [e3, zI1, if_neg (by omega), e2, zI1, if_neg (by omega)]
      have v3 : sV s3 := by
        obtain ⟨v1, v2, v3, v4, v5, v6, v8, v7⟩ := k1.2
        refine ⟨?_, ?_, ?_, ?_, ?_, ?_, ?_, fun i => ?_⟩
        · rw [g _ _ (by decide) (by decide)]; exact v1
        · rw [g _ _ (by decide) (by decide)]; exact v2
        · rw [g _ _ (by decide) (by decide)]; exact v3
        · rw [g _ _ (by decide) (by decide)]; exact v4
        · rw [g _ _ (by decide) (by decide)]; exact v5
        · rw [g _ _ (by decide) (by decide)]; exact v6
        · rw [g _ _ (by decide) (by decide)]; exact v8
        · rw [g _ _ (by decide) (by decide)]; exact v7 i
      refine ⟨fun _ => ?_, fun _ => j101 _ _ n1 n5 v3⟩
      refine sf_X2_firstWrong v3 (fun r5 s4 k4 s6 e6 => ?_)
      have m1 : s6.1 1 1 = 0 := by rw [e6, zI1, if_neg (by omega), (k4.1.1 1 1 (by omega)).1]; exact n1
      have m5 : s6.1 0 5 = σ.1 0 5 := by rw [e6, zI1, if_neg (by omega), (k4.1.1 0 5 (by omega)).1]; exact n5
      have v6 : sV s6 := by
        obtain ⟨v1, v2, v3, v4, v5, v6, v8, v7⟩ := k4.2
        rw [e6]
        refine ⟨?_, ?_, ?_, ?_, ?_, ?_, ?_, fun i => ?_⟩
        · rw [zI1, if_neg (by omega)]; exact v1
        · rw [zI1, if_neg (by omega)]; exact v2
        · rw [zI1, if_neg (by omega)]; exact v3
        · rw [zI1, if_neg (by omega)]; exact v4
        · rw [zI1, if_neg (by omega)]; exact v5
        · rw [zI1, if_neg (by omega)]; exact v6
        · rw [zI1, if_neg (by omega)]; exact v8
        · rw [zI1, if_neg (by omega)]; exact v7 i
      exact ⟨fun _ => j101 _ _ m1 m5 v6, fun _ => j101 _ _ m1 m5 v6⟩
    refine ⟨fun _ => j39 _ ⟨sK.rf, v0⟩, fun c => ?_⟩
    refine sf_X6_areMore v0 (fun r2 s1 _ k1 => ⟨fun _ => j39 _ k1, fun _ => ?_⟩)
    have c' := c
    rw [Int32.le_iff_toInt_le, show (16000 : Int32).toInt = 16000 from by decide] at c'
    refine sf_X6_readSection k1.2 (k1.b b0) (by omega) (fun s3 q3 v3 b3 => ?_)
    have e : (x1 + 1).toInt = x1.toInt + 1 := inc_n hx (by omega)
    refine ⟨_, (inc_1 c hx).2, (q0.trans k1.q).trans q3, v3, (inc_1 c hx).1, ?_, rfl⟩
    rw [e]
    intro i hi
    have := b3 i hi
    omega
  · unfold PX8_check_0
    refine sf_X6_begin hv (fun s q v b => ⟨_, trivial, q, v, by decide, ?_, rfl⟩)
    rw [i0]
    exact b
theorem sf_X0_has {σ : zS} {a1 : Int32} {K : Int32 → zS → Prop} {QX : zS → Prop} (h : ∀ r, (¬ r = 0 → vp_in a1 64) → K r σ) : zCT zZC zmX0_has [.ref 9, .int a1] σ (zQi K) QX := by
  refine rX0_has ?_
  unfold PX0_has_0
  exact ⟨fun _ => ⟨Or.inl rfl, h _ (fun z => absurd rfl z)⟩, fun c1 => ⟨fun _ => ⟨Or.inl rfl, h _ (fun z => absurd rfl z)⟩, fun _ => ⟨fun _ => ⟨Or.inl rfl, h _ (fun z => absurd rfl z)⟩, fun c2 => ⟨Or.inr rfl, h _ (fun _ => vp_lh (vl_1 c1) (vh_1 c2) (by decide))⟩⟩⟩⟩
theorem sf_count {σ : zS} {a1 : Int32} {K : Int32 → zS → Prop} {QX : zS → Prop} (h : ∀ r, K r σ) : zCT zZC zmX8_count [.ref 0, .int a1] σ (zQi K) QX := by
  refine rX8_count ?_
  unfold PX8_count_0
  refine rX0_countOf ?_
  unfold PX0_countOf_0
  exact ⟨fun _ => h _, fun _ => ⟨fun _ => h _, fun c1 => ⟨fun _ => h _, fun c2 => ⟨vp_lh (vl_1 c1) (vh_1 c2) (by decide), h _⟩⟩⟩⟩
theorem sf_instructions {σ : zS} {a1 : Int32} {K : Int32 → zS → Prop} {QX : zS → Prop} (h : ∀ r, K r σ) : zCT zZC zmX8_instructions [.ref 0, .int a1] σ (zQi K) QX := by
  refine rX8_instructions ?_
  unfold PX8_instructions_0
  exact sf_X0_has (fun r hr => ⟨fun _ => h _, fun c => ⟨hr c, h _⟩⟩)
theorem sf_locals {σ : zS} {a1 : Int32} {K : Int32 → zS → Prop} {QX : zS → Prop} (h : ∀ r, K r σ) : zCT zZC zmX8_locals [.ref 0, .int a1] σ (zQi K) QX := by
  refine rX8_locals ?_
  unfold PX8_locals_0
  exact sf_X0_has (fun r hr => ⟨fun _ => h _, fun c => ⟨hr c, h _⟩⟩)
theorem sf_code {σ : zS} {a1 a2 : Int32} {K : Int32 → zS → Prop} {QX : zS → Prop} (h : ∀ r, K r σ) : zCT zZC zmX8_code [.ref 0, .int a1, .int a2] σ (zQi K) QX := by
  refine rX8_code ?_
  unfold PX8_code_0
  refine sf_X0_has (fun r hr => ⟨fun _ => h _, fun c => ?_⟩)
  refine rX0_codeAt ?_
  unfold PX0_codeAt_0
  refine sf_X0_has (fun r hr => ⟨fun _ => h _, fun c => ⟨fun _ => h _, fun c1 => ⟨hr c, fun _ => ⟨hr c, fun _ => h _, fun c3 => ⟨fun _ => h _, fun c4 => ⟨vp_lh (vl_1 c3) (vh_1 c4) (by decide), h _⟩⟩⟩, fun _ => h _⟩⟩⟩)
