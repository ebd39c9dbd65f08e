/-! behind a fault: the rest of each reading method -/
theorem er_X1_lookWhereItStands_0_0 {s1 : zS} {K : zS → Prop} (hv : sV s1) (h : ∀ z, sR s1 z → K z) : zQv K none s1 := by
  have k0 : sR s1 s1 := ⟨sK.rf, hv⟩
  exact h _ k0
theorem er_X1_lookWhereItStands_0_1 {r3 : Int32} {s2 : zS} {K : zS → Prop} {QX : zS → Prop} (hv : sV s2) (h : ∀ z, sR s2 z → K z) : ((r3 = (4 : Int32) →
        zQv K none s2) ∧ (¬ r3 = (4 : Int32) →
        zCT zZC zmX4_fail [.ref 1, .int (1 : Int32), .int (s2.1 6 2)] s2 (zQv (fun s4 =>
          zQv K none s4)) QX)) := by
  have k0 : sR s2 s2 := ⟨sK.rf, hv⟩
  refine ⟨fun c1 => ?_, fun c1 => ?_⟩
  · exact h _ k0
  · refine sf_X4_fail k0.2 (fun s4 k20 => ?_)
    have k2 := k0.trans k20
    exact h _ k2
theorem er_X1_lookWhereItStands_0_2 {s4 : zS} {K : zS → Prop} (hv : sV s4) (h : ∀ z, sR s4 z → K z) : zQv K none s4 := by
  have k0 : sR s4 s4 := ⟨sK.rf, hv⟩
  exact h _ k0
theorem er_X1_lookWhereItStands_0_3 {s5 : zS} {K : zS → Prop} (hv : sV s5) (h : ∀ z, sR s5 z → K z) : zQv K none s5 := by
  have k0 : sR s5 s5 := ⟨sK.rf, hv⟩
  exact h _ k0
theorem er_X4_blockType_0_0 {r2 : Int32} {σ : zS} {s1 : zS} {K : Int32 → zS → Prop} {QX : zS → Prop} (hv : sV s1) (h : ∀ r z, sR s1 z → K r z) : ((r2 = (64 : Int32) →
      zQi K (some (.int r2)) s1) ∧ (¬ r2 = (64 : Int32) →
      ((r2 = (127 : Int32) →
        zQi K (some (.int r2)) s1) ∧ (¬ r2 = (127 : Int32) →
        ((r2 = (126 : Int32) →
          zQi K (some (.int r2)) s1) ∧ (¬ r2 = (126 : Int32) →
          zCT zZC zmX4_fail [.ref 1, .int (1 : Int32), .int (σ.1 1 2)] s1 (zQv (fun s3 =>
            zQi K (some (.int r2)) s3)) QX)))))) := by
  have k0 : sR s1 s1 := ⟨sK.rf, hv⟩
  refine ⟨fun c1 => ?_, fun c1 => ?_⟩
  · exact h _ _ k0
  · refine ⟨fun c2 => ?_, fun c2 => ?_⟩
    · exact h _ _ k0
    · refine ⟨fun c3 => ?_, fun c3 => ?_⟩
      · exact h _ _ k0
      · refine sf_X4_fail k0.2 (fun s3 k40 => ?_)
        have k4 := k0.trans k40
        exact h _ _ k4
theorem er_X4_blockType_0_1 {r2 : Int32} {s3 : zS} {K : Int32 → zS → Prop} (hv : sV s3) (h : ∀ r z, sR s3 z → K r z) : zQi K (some (.int r2)) s3 := by
  have k0 : sR s3 s3 := ⟨sK.rf, hv⟩
  exact h _ _ k0
theorem er_X4_leave_0_0 {a1 : Int32} {s2 : zS} {K : zS → Prop} (hv : sV s2) (h : ∀ z, sR s2 z → K z) : ∀ s3 : zS, s3 = zsI s2 1 3 a1 →
      zQv K none s3 := by
  have k0 : sR s2 s2 := ⟨sK.rf, hv⟩
  intro s3 e1
  have k2 : sR s2 s3 := by rw [e1]; exact k0.i _ (by omega)
  exact h _ k2
theorem er_X4_octetWithin_0_0 {a1 : Int32} {a2 : Int32} {r2 : Int32} {σ : zS} {s1 : zS} {K : Int32 → zS → Prop} {QX : zS → Prop} (hv : sV s1) (h : ∀ r z, sR s1 z → K r z) : ((r2 < a1 →
      zCT zZC zmX4_fail [.ref 1, .int (1 : Int32), .int (σ.1 1 2)] s1 (zQv (fun s3 =>
        zQi K (some (.int r2)) s3)) QX) ∧ (¬ r2 < a1 →
      ((r2 ≤ a2 →
        zQi K (some (.int r2)) s1) ∧ (¬ r2 ≤ a2 →
        zCT zZC zmX4_fail [.ref 1, .int (1 : Int32), .int (σ.1 1 2)] s1 (zQv (fun s4 =>
          zQi K (some (.int r2)) s4)) QX)))) := by
  have k0 : sR s1 s1 := ⟨sK.rf, hv⟩
  refine ⟨fun c1 => ?_, fun c1 => ?_⟩
  · refine sf_X4_fail k0.2 (fun s3 k20 => ?_)
    have k2 := k0.trans k20
    exact h _ _ k2
  · refine ⟨fun c3 => ?_, fun c3 => ?_⟩
    · exact h _ _ k0
    · refine sf_X4_fail k0.2 (fun s4 k40 => ?_)
      have k4 := k0.trans k40
      exact h _ _ k4
theorem er_X4_octetWithin_0_1 {r2 : Int32} {s3 : zS} {K : Int32 → zS → Prop} (hv : sV s3) (h : ∀ r z, sR s3 z → K r z) : zQi K (some (.int r2)) s3 := by
  have k0 : sR s3 s3 := ⟨sK.rf, hv⟩
  exact h _ _ k0
theorem er_X4_octetWithin_0_2 {r2 : Int32} {s4 : zS} {K : Int32 → zS → Prop} (hv : sV s4) (h : ∀ r z, sR s4 z → K r z) : zQi K (some (.int r2)) s4 := by
  have k0 : sR s4 s4 := ⟨sK.rf, hv⟩
  exact h _ _ k0
theorem er_X4_skipSigned_8_0 {r2 : Int32} {x1 : Int32} {x2 : Int32} {x3 : Int32} {x4 : Int32} {s1 : zS} {K8 : Int32 → Int32 → Int32 → Int32 → zS → Prop} {K : zS → Prop} {QX : zS → Prop} (hv : sV s1) (h : ∀ z, sR s1 z → K z) (hK0 : ∀ (z : zS), sR s1 z → K8 x1 x2 x3 (x4 + 1) z) : ((x4 = x1 →
          ((r2 ≤ x2 →
            (((128 : Int32) ≤ r2 →
              K8 x1 x2 x3 (x4 + 1) s1) ∧ (¬ (128 : Int32) ≤ r2 →
              zQv K none s1))) ∧ (¬ r2 ≤ x2 →
            ((r2 < ((127 : Int32) - x2) →
              zCT zZC zmX4_fail [.ref 1, .int (1 : Int32), .int x3] s1 (zQv (fun s3 =>
                (((128 : Int32) ≤ r2 →
                  K8 x1 x2 x3 (x4 + 1) s3) ∧ (¬ (128 : Int32) ≤ r2 →
                  zQv K none s3)))) QX) ∧ (¬ r2 < ((127 : Int32) - x2) →
              ((r2 ≤ (127 : Int32) →
                (((128 : Int32) ≤ r2 →
                  K8 x1 x2 x3 (x4 + 1) s1) ∧ (¬ (128 : Int32) ≤ r2 →
                  zQv K none s1))) ∧ (¬ r2 ≤ (127 : Int32) →
                zCT zZC zmX4_fail [.ref 1, .int (1 : Int32), .int x3] s1 (zQv (fun s4 =>
                  (((128 : Int32) ≤ r2 →
                    K8 x1 x2 x3 (x4 + 1) s4) ∧ (¬ (128 : Int32) ≤ r2 →
                    zQv K none s4)))) QX))))))) ∧ (¬ x4 = x1 →
          (((128 : Int32) ≤ r2 →
            K8 x1 x2 x3 (x4 + 1) s1) ∧ (¬ (128 : Int32) ≤ r2 →
            zQv K none s1)))) := by
  have k0 : sR s1 s1 := ⟨sK.rf, hv⟩
  refine ⟨fun c1 => ?_, fun c1 => ?_⟩
  · refine ⟨fun c2 => ?_, fun c2 => ?_⟩
    · refine ⟨fun c3 => ?_, fun c3 => ?_⟩
      · exact hK0  _ k0
      · exact h _ k0
    · refine ⟨fun c4 => ?_, fun c4 => ?_⟩
      · refine sf_X4_fail k0.2 (fun s3 k50 => ?_)
        have k5 := k0.trans k50
        refine ⟨fun c6 => ?_, fun c6 => ?_⟩
        · exact hK0  _ k5
        · exact h _ k5
      · refine ⟨fun c7 => ?_, fun c7 => ?_⟩
        · refine ⟨fun c8 => ?_, fun c8 => ?_⟩
          · exact hK0  _ k0
          · exact h _ k0
        · refine sf_X4_fail k0.2 (fun s4 k90 => ?_)
          have k9 := k0.trans k90
          refine ⟨fun c10 => ?_, fun c10 => ?_⟩
          · exact hK0  _ k9
          · exact h _ k9
  · refine ⟨fun c11 => ?_, fun c11 => ?_⟩
    · exact hK0  _ k0
    · exact h _ k0
theorem er_X4_skipSigned_8_1 {r2 : Int32} {x1 : Int32} {x2 : Int32} {x3 : Int32} {x4 : Int32} {s3 : zS} {K8 : Int32 → Int32 → Int32 → Int32 → zS → Prop} {K : zS → Prop} (hv : sV s3) (h : ∀ z, sR s3 z → K z) (hK0 : ∀ (z : zS), sR s3 z → K8 x1 x2 x3 (x4 + 1) z) : (((128 : Int32) ≤ r2 →
                  K8 x1 x2 x3 (x4 + 1) s3) ∧ (¬ (128 : Int32) ≤ r2 →
                  zQv K none s3)) := by
  have k0 : sR s3 s3 := ⟨sK.rf, hv⟩
  refine ⟨fun c1 => ?_, fun c1 => ?_⟩
  · exact hK0  _ k0
  · exact h _ k0
theorem er_X4_skipSigned_8_2 {r2 : Int32} {x1 : Int32} {x2 : Int32} {x3 : Int32} {x4 : Int32} {s4 : zS} {K8 : Int32 → Int32 → Int32 → Int32 → zS → Prop} {K : zS → Prop} (hv : sV s4) (h : ∀ z, sR s4 z → K z) (hK0 : ∀ (z : zS), sR s4 z → K8 x1 x2 x3 (x4 + 1) z) : (((128 : Int32) ≤ r2 →
                    K8 x1 x2 x3 (x4 + 1) s4) ∧ (¬ (128 : Int32) ≤ r2 →
                    zQv K none s4)) := by
  have k0 : sR s4 s4 := ⟨sK.rf, hv⟩
  refine ⟨fun c1 => ?_, fun c1 => ?_⟩
  · exact hK0  _ k0
  · exact h _ k0
theorem er_X6_fit_0_0 {s1 : zS} {K : zS → Prop} (hv : sV s1) (h : ∀ z, sR s1 z → K z) : zQv K none s1 := by
  have k0 : sR s1 s1 := ⟨sK.rf, hv⟩
  exact h _ k0
theorem er_X6_fit_0_1 {a1 : Int32} {s2 : zS} {K : zS → Prop} {QX : zS → Prop} (hv : sV s2) (h : ∀ z, sR s2 z → K z) : ((a1 = (11 : Int32) →
          (((s2.2 2 14) < (0 : Int64) →
            zQv K none s2) ∧ (¬ (s2.2 2 14) < (0 : Int64) →
            vp_in (11 : Int32) 13 ∧
            ((((s2.1 18 (11 : Int32).toNatClampNeg).toInt64) = (s2.2 2 14) →
              zQv K none s2) ∧ (¬ ((s2.1 18 (11 : Int32).toNatClampNeg).toInt64) = (s2.2 2 14) →
              zCT zZC zmX4_fail [.ref 1, .int (1 : Int32), .int (s2.1 1 2)] s2 (zQv (fun s3 =>
                zQv K none s3)) QX))))) ∧ (¬ a1 = (11 : Int32) →
          zQv K none s2)) := by
  have k0 : sR s2 s2 := ⟨sK.rf, hv⟩
  refine ⟨fun c1 => ?_, fun c1 => ?_⟩
  · refine ⟨fun c2 => ?_, fun c2 => ?_⟩
    · exact h _ k0
    · refine ⟨(by unfold vp_in; decide), ?_⟩
      refine ⟨fun c3 => ?_, fun c3 => ?_⟩
      · exact h _ k0
      · refine sf_X4_fail k0.2 (fun s3 k40 => ?_)
        have k4 := k0.trans k40
        exact h _ k4
  · exact h _ k0
theorem er_X6_fit_0_2 {s3 : zS} {K : zS → Prop} (hv : sV s3) (h : ∀ z, sR s3 z → K z) : zQv K none s3 := by
  have k0 : sR s3 s3 := ⟨sK.rf, hv⟩
  exact h _ k0
theorem er_X6_fit_0_3 {s4 : zS} {K : zS → Prop} (hv : sV s4) (h : ∀ z, sR s4 z → K z) : zQv K none s4 := by
  have k0 : sR s4 s4 := ⟨sK.rf, hv⟩
  exact h _ k0
theorem er_X6_isExported_2_0 {r2 : Int32} {x1 : Int32} {x2 : Int32} {x3 : Int32} {s1 : zS} {K2 : Int32 → Int32 → Int32 → zS → Prop} {K : Int32 → zS → Prop} (hv : sV s1) (h : ∀ r z, sR s1 z → K r z) (hK0 : ∀ (z : zS), sR s1 z → K2 x1 x2 (x3 + 1) z) : ((r2 = 0 →
            K2 x1 x2 (x3 + 1) s1) ∧ (¬ r2 = 0 →
            ((1 : Int32) = 0 ∨ (1 : Int32) = 1) ∧ zQi K (some (.int (1 : Int32))) s1)) := by
  have k0 : sR s1 s1 := ⟨sK.rf, hv⟩
  refine ⟨fun c1 => ?_, fun c1 => ?_⟩
  · exact hK0  _ k0
  · refine ⟨Or.inr rfl, ?_⟩
    exact h _ _ k0
theorem er_X6_refuseBeyond_0_0 {s1 : zS} {K : zS → Prop} (hv : sV s1) (h : ∀ z, sR s1 z → K z) : zQv K none s1 := by
  have k0 : sR s1 s1 := ⟨sK.rf, hv⟩
  exact h _ k0
theorem er_X4_length_0_0 {r2 : Int64} {σ : zS} {s1 : zS} {K : Int32 → zS → Prop} {QX : zS → Prop} (hv : sV s1) (h : ∀ r z, sR s1 z → K r z) : ((r2 ≤ (((s1.1 1 3) - (s1.1 1 2)).toInt64) →
      (((s1.1 1 4) = 0 →
        zQi K (some (.int (r2.toInt32))) s1) ∧ (¬ (s1.1 1 4) = 0 →
        zQi K (some (.int (0 : Int32))) s1))) ∧ (¬ r2 ≤ (((s1.1 1 3) - (s1.1 1 2)).toInt64) →
      zCT zZC zmX4_fail [.ref 1, .int (1 : Int32), .int (σ.1 1 2)] s1 (zQv (fun s3 =>
        (((s3.1 1 4) = 0 →
          zQi K (some (.int (r2.toInt32))) s3) ∧ (¬ (s3.1 1 4) = 0 →
          zQi K (some (.int (0 : Int32))) s3)))) QX)) := by
  have k0 : sR s1 s1 := ⟨sK.rf, hv⟩
  refine ⟨fun c1 => ?_, fun c1 => ?_⟩
  · refine ⟨fun c2 => ?_, fun c2 => ?_⟩
    · exact h _ _ k0
    · exact h _ _ k0
  · refine sf_X4_fail k0.2 (fun s3 k30 => ?_)
    have k3 := k0.trans k30
    refine ⟨fun c4 => ?_, fun c4 => ?_⟩
    · exact h _ _ k3
    · exact h _ _ k3
theorem er_X4_length_0_1 {r2 : Int64} {s3 : zS} {K : Int32 → zS → Prop} (hv : sV s3) (h : ∀ r z, sR s3 z → K r z) : (((s3.1 1 4) = 0 →
          zQi K (some (.int (r2.toInt32))) s3) ∧ (¬ (s3.1 1 4) = 0 →
          zQi K (some (.int (0 : Int32))) s3)) := by
  have k0 : sR s3 s3 := ⟨sK.rf, hv⟩
  refine ⟨fun c1 => ?_, fun c1 => ?_⟩
  · exact h _ _ k0
  · exact h _ _ k0
theorem er_X4_name_0_0 {r2 : Int64} {σ : zS} {s1 : zS} {K63 : Int32 → Int32 → Int32 → zS → Prop} {K : Int32 → zS → Prop} {QX : zS → Prop} (hv : sV s1) (h : ∀ r z, sR s1 z → K r z) (hK0 : ∀ (z : zS), sR s1 z → K63 (σ.1 1 2) (r2.toInt32) (0 : Int32) z) (hK1 : ∀ (z : zS), sR s1 z → K63 (σ.1 1 2) (0 : Int32) (0 : Int32) z) : ((r2 < (1 : Int64) →
      zCT zZC zmX4_fail [.ref 1, .int (1 : Int32), .int (σ.1 1 2)] s1 (zQv (fun s3 =>
        (((s3.1 1 4) = 0 →
          K63 (σ.1 1 2) (r2.toInt32) (0 : Int32) s3) ∧ (¬ (s3.1 1 4) = 0 →
          K63 (σ.1 1 2) (0 : Int32) (0 : Int32) s3)))) QX) ∧ (¬ r2 < (1 : Int64) →
      (((100 : Int64) < r2 →
        zCT zZC zmX4_fail [.ref 1, .int (1 : Int32), .int (σ.1 1 2)] s1 (zQv (fun s4 =>
          (((s4.1 1 4) = 0 →
            K63 (σ.1 1 2) (r2.toInt32) (0 : Int32) s4) ∧ (¬ (s4.1 1 4) = 0 →
            K63 (σ.1 1 2) (0 : Int32) (0 : Int32) s4)))) QX) ∧ (¬ (100 : Int64) < r2 →
        ((r2 ≤ (((s1.1 1 3) - (s1.1 1 2)).toInt64) →
          (((s1.1 1 4) = 0 →
            K63 (σ.1 1 2) (r2.toInt32) (0 : Int32) s1) ∧ (¬ (s1.1 1 4) = 0 →
            K63 (σ.1 1 2) (0 : Int32) (0 : Int32) s1))) ∧ (¬ r2 ≤ (((s1.1 1 3) - (s1.1 1 2)).toInt64) →
          zCT zZC zmX4_fail [.ref 1, .int (1 : Int32), .int (σ.1 1 2)] s1 (zQv (fun s5 =>
            (((s5.1 1 4) = 0 →
              K63 (σ.1 1 2) (r2.toInt32) (0 : Int32) s5) ∧ (¬ (s5.1 1 4) = 0 →
              K63 (σ.1 1 2) (0 : Int32) (0 : Int32) s5)))) QX)))))) := by
  have k0 : sR s1 s1 := ⟨sK.rf, hv⟩
  refine ⟨fun c1 => ?_, fun c1 => ?_⟩
  · refine sf_X4_fail k0.2 (fun s3 k20 => ?_)
    have k2 := k0.trans k20
    refine ⟨fun c3 => ?_, fun c3 => ?_⟩
    · exact hK0  _ k2
    · exact hK1  _ k2
  · refine ⟨fun c4 => ?_, fun c4 => ?_⟩
    · refine sf_X4_fail k0.2 (fun s4 k50 => ?_)
      have k5 := k0.trans k50
      refine ⟨fun c6 => ?_, fun c6 => ?_⟩
      · exact hK0  _ k5
      · exact hK1  _ k5
    · refine ⟨fun c7 => ?_, fun c7 => ?_⟩
      · refine ⟨fun c8 => ?_, fun c8 => ?_⟩
        · exact hK0  _ k0
        · exact hK1  _ k0
      · refine sf_X4_fail k0.2 (fun s5 k90 => ?_)
        have k9 := k0.trans k90
        refine ⟨fun c10 => ?_, fun c10 => ?_⟩
        · exact hK0  _ k9
        · exact hK1  _ k9
theorem er_X4_name_0_1 {r2 : Int64} {σ : zS} {s3 : zS} {K63 : Int32 → Int32 → Int32 → zS → Prop} {K : Int32 → zS → Prop} (hv : sV s3) (h : ∀ r z, sR s3 z → K r z) (hK0 : ∀ (z : zS), sR s3 z → K63 (σ.1 1 2) (r2.toInt32) (0 : Int32) z) (hK1 : ∀ (z : zS), sR s3 z → K63 (σ.1 1 2) (0 : Int32) (0 : Int32) z) : (((s3.1 1 4) = 0 →
          K63 (σ.1 1 2) (r2.toInt32) (0 : Int32) s3) ∧ (¬ (s3.1 1 4) = 0 →
          K63 (σ.1 1 2) (0 : Int32) (0 : Int32) s3)) := by
  have k0 : sR s3 s3 := ⟨sK.rf, hv⟩
  refine ⟨fun c1 => ?_, fun c1 => ?_⟩
  · exact hK0  _ k0
  · exact hK1  _ k0
theorem er_X4_name_0_2 {r2 : Int64} {σ : zS} {s4 : zS} {K63 : Int32 → Int32 → Int32 → zS → Prop} {K : Int32 → zS → Prop} (hv : sV s4) (h : ∀ r z, sR s4 z → K r z) (hK0 : ∀ (z : zS), sR s4 z → K63 (σ.1 1 2) (r2.toInt32) (0 : Int32) z) (hK1 : ∀ (z : zS), sR s4 z → K63 (σ.1 1 2) (0 : Int32) (0 : Int32) z) : (((s4.1 1 4) = 0 →
            K63 (σ.1 1 2) (r2.toInt32) (0 : Int32) s4) ∧ (¬ (s4.1 1 4) = 0 →
            K63 (σ.1 1 2) (0 : Int32) (0 : Int32) s4)) := by
  have k0 : sR s4 s4 := ⟨sK.rf, hv⟩
  refine ⟨fun c1 => ?_, fun c1 => ?_⟩
  · exact hK0  _ k0
  · exact hK1  _ k0
theorem er_X4_name_0_3 {r2 : Int64} {σ : zS} {s5 : zS} {K63 : Int32 → Int32 → Int32 → zS → Prop} {K : Int32 → zS → Prop} (hv : sV s5) (h : ∀ r z, sR s5 z → K r z) (hK0 : ∀ (z : zS), sR s5 z → K63 (σ.1 1 2) (r2.toInt32) (0 : Int32) z) (hK1 : ∀ (z : zS), sR s5 z → K63 (σ.1 1 2) (0 : Int32) (0 : Int32) z) : (((s5.1 1 4) = 0 →
              K63 (σ.1 1 2) (r2.toInt32) (0 : Int32) s5) ∧ (¬ (s5.1 1 4) = 0 →
              K63 (σ.1 1 2) (0 : Int32) (0 : Int32) s5)) := by
  have k0 : sR s5 s5 := ⟨sK.rf, hv⟩
  refine ⟨fun c1 => ?_, fun c1 => ?_⟩
  · exact hK0  _ k0
  · exact hK1  _ k0
theorem er_X4_name_63_0 {r2 : Int32} {x1 : Int32} {x4 : Int32} {x5 : Int32} {s1 : zS} {K63 : Int32 → Int32 → Int32 → zS → Prop} {K : Int32 → zS → Prop} {QX : zS → Prop} (hv : sV s1) (h : ∀ r z, sR s1 z → K r z) (hK0 : ∀ (z : zS), sR s1 z → K63 x1 x4 (x5 + 1) z) : ((r2 < (33 : Int32) →
          zCT zZC zmX4_fail [.ref 1, .int (1 : Int32), .int x1] s1 (zQv (fun s3 =>
            K63 x1 x4 (x5 + 1) s3)) QX) ∧ (¬ r2 < (33 : Int32) →
          ((r2 ≤ (126 : Int32) →
            K63 x1 x4 (x5 + 1) s1) ∧ (¬ r2 ≤ (126 : Int32) →
            zCT zZC zmX4_fail [.ref 1, .int (1 : Int32), .int x1] s1 (zQv (fun s4 =>
              K63 x1 x4 (x5 + 1) s4)) QX)))) := by
  have k0 : sR s1 s1 := ⟨sK.rf, hv⟩
  refine ⟨fun c1 => ?_, fun c1 => ?_⟩
  · refine sf_X4_fail k0.2 (fun s3 k20 => ?_)
    have k2 := k0.trans k20
    exact hK0  _ k2
  · refine ⟨fun c3 => ?_, fun c3 => ?_⟩
    · exact hK0  _ k0
    · refine sf_X4_fail k0.2 (fun s4 k40 => ?_)
      have k4 := k0.trans k40
      exact hK0  _ k4
theorem er_X4_name_63_1 {x1 : Int32} {x4 : Int32} {x5 : Int32} {s3 : zS} {K63 : Int32 → Int32 → Int32 → zS → Prop} {K : Int32 → zS → Prop} (hv : sV s3) (h : ∀ r z, sR s3 z → K r z) (hK0 : ∀ (z : zS), sR s3 z → K63 x1 x4 (x5 + 1) z) : K63 x1 x4 (x5 + 1) s3 := by
  have k0 : sR s3 s3 := ⟨sK.rf, hv⟩
  exact hK0  _ k0
theorem er_X4_name_63_2 {x1 : Int32} {x4 : Int32} {x5 : Int32} {s4 : zS} {K63 : Int32 → Int32 → Int32 → zS → Prop} {K : Int32 → zS → Prop} (hv : sV s4) (h : ∀ r z, sR s4 z → K r z) (hK0 : ∀ (z : zS), sR s4 z → K63 x1 x4 (x5 + 1) z) : K63 x1 x4 (x5 + 1) s4 := by
  have k0 : sR s4 s4 := ⟨sK.rf, hv⟩
  exact hK0  _ k0
theorem er_X4_rowLength_0_0 {r2 : Int64} {s1 : zS} {K : Int32 → zS → Prop} (hv : sV s1) (h : ∀ r z, sR s1 z → K r z) : zQi K (some (.int ((if (16000 : Int64) < r2 then (16000 : Int64) else r2).toInt32))) s1 := by
  have k0 : sR s1 s1 := ⟨sK.rf, hv⟩
  exact h _ _ k0
theorem er_X4_type_0_0 {r2 : Int32} {s1 : zS} {K : Int32 → zS → Prop} (hv : sV s1) (h : ∀ r z, sR s1 z → K r z) : zQi K (some (.int r2)) s1 := by
  have k0 : sR s1 s1 := ⟨sK.rf, hv⟩
  exact h _ _ k0
theorem er_X5_readArguments_0_0 {r2 : Int32} {s1 : zS} {K : zS → Prop} (hv : sV s1) (h : ∀ z, sR s1 z → K z) : ∀ s3 : zS, s3 = zsL s1 6 4 (r2.toInt64) →
      zQv K none s3 := by
  have k0 : sR s1 s1 := ⟨sK.rf, hv⟩
  intro s3 e1
  have k2 : sR s1 s3 := by rw [e1]; exact k0.l _ (by omega)
  exact h _ k2
theorem er_X5_readArguments_0_1 {r5 : Int64} {s4 : zS} {K : zS → Prop} (hv : sV s4) (h : ∀ z, sR s4 z → K z) : ∀ s6 : zS, s6 = zsL s4 6 4 r5 →
      zQv K none s6 := by
  have k0 : sR s4 s4 := ⟨sK.rf, hv⟩
  intro s6 e1
  have k2 : sR s4 s6 := by rw [e1]; exact k0.l _ (by omega)
  exact h _ k2
theorem er_X5_readArguments_0_2 {r8 : Int64} {s7 : zS} {K : zS → Prop} {QX : zS → Prop} (hv : sV s7) (h : ∀ z, sR s7 z → K z) : ∀ s9 : zS, s9 = zsL s7 6 4 r8 →
      zCT zZC zmX4_octetWithin [.ref 1, .int (0 : Int32), .int (0 : Int32)] s9 (zQi (fun r11 s10 =>
        zQv K none s10)) QX := by
  have k0 : sR s7 s7 := ⟨sK.rf, hv⟩
  intro s9 e1
  have k2 : sR s7 s9 := by rw [e1]; exact k0.l _ (by omega)
  refine sf_X4_octetWithin k2.2 (fun r11 s10 k30 => ?_)
  have k3 := k2.trans k30
  exact h _ k3
theorem er_X5_readArguments_0_3 {s10 : zS} {K : zS → Prop} (hv : sV s10) (h : ∀ z, sR s10 z → K z) : zQv K none s10 := by
  have k0 : sR s10 s10 := ⟨sK.rf, hv⟩
  exact h _ k0
theorem er_X5_readArguments_0_4 {s12 : zS} {K : zS → Prop} (hv : sV s12) (h : ∀ z, sR s12 z → K z) : zQv K none s12 := by
  have k0 : sR s12 s12 := ⟨sK.rf, hv⟩
  exact h _ k0
theorem er_X5_readArguments_0_5 {s14 : zS} {K : zS → Prop} (hv : sV s14) (h : ∀ z, sR s14 z → K z) : zQv K none s14 := by
  have k0 : sR s14 s14 := ⟨sK.rf, hv⟩
  exact h _ k0
theorem er_X5_readArguments_0_6 {s15 : zS} {K : zS → Prop} (hv : sV s15) (h : ∀ z, sR s15 z → K z) : zQv K none s15 := by
  have k0 : sR s15 s15 := ⟨sK.rf, hv⟩
  exact h _ k0
theorem er_X5_readArguments_0_7 {s16 : zS} {K : zS → Prop} {QX : zS → Prop} (hv : sV s16) (h : ∀ z, sR s16 z → K z) : zCT zZC zmX4_octetWithin [.ref 1, .int (0 : Int32), .int (0 : Int32)] s16 (zQi (fun r19 s18 =>
        zQv K none s18)) QX := by
  have k0 : sR s16 s16 := ⟨sK.rf, hv⟩
  refine sf_X4_octetWithin k0.2 (fun r19 s18 k10 => ?_)
  have k1 := k0.trans k10
  exact h _ k1
theorem er_X5_readArguments_0_8 {s18 : zS} {K : zS → Prop} (hv : sV s18) (h : ∀ z, sR s18 z → K z) : zQv K none s18 := by
  have k0 : sR s18 s18 := ⟨sK.rf, hv⟩
  exact h _ k0
theorem er_X5_readArguments_0_9 {r21 : Int64} {s20 : zS} {K : zS → Prop} {QX : zS → Prop} (hv : sV s20) (h : ∀ z, sR s20 z → K z) : ∀ s22 : zS, s22 = zsL s20 6 4 r21 →
          zCT zZC zmX4_number [.ref 1] s22 (zQl (fun r24 s23 =>
            zQv K none s23)) QX := by
  have k0 : sR s20 s20 := ⟨sK.rf, hv⟩
  intro s22 e1
  have k2 : sR s20 s22 := by rw [e1]; exact k0.l _ (by omega)
  refine sf_X4_number k2.2 (fun r24 s23 p4 k30 => ?_)
  have k3 := k2.trans k30
  exact h _ k3
theorem er_X5_readArguments_0_10 {s23 : zS} {K : zS → Prop} (hv : sV s23) (h : ∀ z, sR s23 z → K z) : zQv K none s23 := by
  have k0 : sR s23 s23 := ⟨sK.rf, hv⟩
  exact h _ k0
theorem er_X5_readNumber_0_0 {r3 : Int32} {s2 : zS} {K : zS → Prop} {QX : zS → Prop} (hv : sV s2) (h : ∀ z, sR s2 z → K z) : ∀ s4 : zS, s4 = zsI s2 6 3 r3 →
    (((s4.1 6 3) = (252 : Int32) →
      zCT zZC zmX4_number [.ref 1] s4 (zQl (fun r6 s5 =>
        ((r6 < (8 : Int64) →
          zCT zZC zmX4_fail [.ref 1, .int (1 : Int32), .int (s4.1 1 2)] s5 (zQv (fun s7 =>
            ∀ s8 : zS, s8 = zsI s7 6 3 ((256 : Int32) + ((8 : Int64).toInt32)) →
            zQv K none s8)) QX) ∧ (¬ r6 < (8 : Int64) →
          ((r6 ≤ (14 : Int64) →
            ∀ s9 : zS, s9 = zsI s5 6 3 ((256 : Int32) + (r6.toInt32)) →
            zQv K none s9) ∧ (¬ r6 ≤ (14 : Int64) →
            zCT zZC zmX4_fail [.ref 1, .int (1 : Int32), .int (s4.1 1 2)] s5 (zQv (fun s10 =>
              ∀ s11 : zS, s11 = zsI s10 6 3 ((256 : Int32) + ((8 : Int64).toInt32)) →
              zQv K none s11)) QX)))))) QX) ∧ (¬ (s4.1 6 3) = (252 : Int32) →
      zCT zZC zmX5_isOfOneByte [.int (s4.1 6 3)] s4 (zQi (fun r13 s12 =>
        ((r13 = 0 →
          zCT zZC zmX4_fail [.ref 1, .int (1 : Int32), .int (s12.1 6 2)] s12 (zQv (fun s14 =>
            zQv K none s14)) QX) ∧ (¬ r13 = 0 →
          zQv K none s12)))) QX)) := by
  have k0 : sR s2 s2 := ⟨sK.rf, hv⟩
  intro s4 e1
  have k2 : sR s2 s4 := by rw [e1]; exact k0.i _ (by omega)
  refine ⟨fun c3 => ?_, fun c3 => ?_⟩
  · refine sf_X4_number k2.2 (fun r6 s5 p5 k40 => ?_)
    have k4 := k2.trans k40
    refine ⟨fun c6 => ?_, fun c6 => ?_⟩
    · refine sf_X4_fail k4.2 (fun s7 k70 => ?_)
      have k7 := k4.trans k70
      intro s8 e8
      have k9 : sR s2 s8 := by rw [e8]; exact k7.i _ (by omega)
      exact h _ k9
    · refine ⟨fun c10 => ?_, fun c10 => ?_⟩
      · intro s9 e11
        have k12 : sR s2 s9 := by rw [e11]; exact k4.i _ (by omega)
        exact h _ k12
      · refine sf_X4_fail k4.2 (fun s10 k130 => ?_)
        have k13 := k4.trans k130
        intro s11 e14
        have k15 : sR s2 s11 := by rw [e14]; exact k13.i _ (by omega)
        exact h _ k15
  · refine sf_X5_isOfOneByte k2.2 (fun r13 s12 b17 k160 => ?_)
    have k16 := k2.trans k160
    refine ⟨fun c18 => ?_, fun c18 => ?_⟩
    · refine sf_X4_fail k16.2 (fun s14 k190 => ?_)
      have k19 := k16.trans k190
      exact h _ k19
    · exact h _ k16
theorem er_X5_readNumber_0_1 {r6 : Int64} {s4 : zS} {s5 : zS} {K : zS → Prop} {QX : zS → Prop} (hv : sV s5) (h : ∀ z, sR s5 z → K z) : ((r6 < (8 : Int64) →
          zCT zZC zmX4_fail [.ref 1, .int (1 : Int32), .int (s4.1 1 2)] s5 (zQv (fun s7 =>
            ∀ s8 : zS, s8 = zsI s7 6 3 ((256 : Int32) + ((8 : Int64).toInt32)) →
            zQv K none s8)) QX) ∧ (¬ r6 < (8 : Int64) →
          ((r6 ≤ (14 : Int64) →
            ∀ s9 : zS, s9 = zsI s5 6 3 ((256 : Int32) + (r6.toInt32)) →
            zQv K none s9) ∧ (¬ r6 ≤ (14 : Int64) →
            zCT zZC zmX4_fail [.ref 1, .int (1 : Int32), .int (s4.1 1 2)] s5 (zQv (fun s10 =>
              ∀ s11 : zS, s11 = zsI s10 6 3 ((256 : Int32) + ((8 : Int64).toInt32)) →
              zQv K none s11)) QX)))) := by
  have k0 : sR s5 s5 := ⟨sK.rf, hv⟩
  refine ⟨fun c1 => ?_, fun c1 => ?_⟩
  · refine sf_X4_fail k0.2 (fun s7 k20 => ?_)
    have k2 := k0.trans k20
    intro s8 e3
    have k4 : sR s5 s8 := by rw [e3]; exact k2.i _ (by omega)
    exact h _ k4
  · refine ⟨fun c5 => ?_, fun c5 => ?_⟩
    · intro s9 e6
      have k7 : sR s5 s9 := by rw [e6]; exact k0.i _ (by omega)
      exact h _ k7
    · refine sf_X4_fail k0.2 (fun s10 k80 => ?_)
      have k8 := k0.trans k80
      intro s11 e9
      have k10 : sR s5 s11 := by rw [e9]; exact k8.i _ (by omega)
      exact h _ k10
theorem er_X5_readNumber_0_2 {s7 : zS} {K : zS → Prop} (hv : sV s7) (h : ∀ z, sR s7 z → K z) : ∀ s8 : zS, s8 = zsI s7 6 3 ((256 : Int32) + ((8 : Int64).toInt32)) →
            zQv K none s8 := by
  have k0 : sR s7 s7 := ⟨sK.rf, hv⟩
  intro s8 e1
  have k2 : sR s7 s8 := by rw [e1]; exact k0.i _ (by omega)
  exact h _ k2
theorem er_X5_readNumber_0_3 {s10 : zS} {K : zS → Prop} (hv : sV s10) (h : ∀ z, sR s10 z → K z) : ∀ s11 : zS, s11 = zsI s10 6 3 ((256 : Int32) + ((8 : Int64).toInt32)) →
              zQv K none s11 := by
  have k0 : sR s10 s10 := ⟨sK.rf, hv⟩
  intro s11 e1
  have k2 : sR s10 s11 := by rw [e1]; exact k0.i _ (by omega)
  exact h _ k2
theorem er_X5_readNumber_0_4 {r13 : Int32} {s12 : zS} {K : zS → Prop} {QX : zS → Prop} (hv : sV s12) (h : ∀ z, sR s12 z → K z) : ((r13 = 0 →
          zCT zZC zmX4_fail [.ref 1, .int (1 : Int32), .int (s12.1 6 2)] s12 (zQv (fun s14 =>
            zQv K none s14)) QX) ∧ (¬ r13 = 0 →
          zQv K none s12)) := by
  have k0 : sR s12 s12 := ⟨sK.rf, hv⟩
  refine ⟨fun c1 => ?_, fun c1 => ?_⟩
  · refine sf_X4_fail k0.2 (fun s14 k20 => ?_)
    have k2 := k0.trans k20
    exact h _ k2
  · exact h _ k0
theorem er_X5_readNumber_0_5 {s14 : zS} {K : zS → Prop} (hv : sV s14) (h : ∀ z, sR s14 z → K z) : zQv K none s14 := by
  have k0 : sR s14 s14 := ⟨sK.rf, hv⟩
  exact h _ k0
theorem er_X6_finish_0_0 {s1 : zS} {K : zS → Prop} {QX : zS → Prop} (hv : sV s1) (h : ∀ z, sR s1 z → K z) : zCT zZC zmX6_fit [.ref 3, .int (11 : Int32)] s1 (zQv (fun s2 =>
      zQv K none s2)) QX := by
  have k0 : sR s1 s1 := ⟨sK.rf, hv⟩
  refine sf_X6_fit k0.2 (fun s2 k10 => ?_)
  have k1 := k0.trans k10
  exact h _ k1
theorem er_X6_finish_0_1 {s2 : zS} {K : zS → Prop} (hv : sV s2) (h : ∀ z, sR s2 z → K z) : zQv K none s2 := by
  have k0 : sR s2 s2 := ⟨sK.rf, hv⟩
  exact h _ k0
theorem er_X6_readConstant_0_0 {a1 : Int32} {a2 : Int32} {r2 : Int32} {σ : zS} {s1 : zS} {K : zS → Prop} {QX : zS → Prop} (hv : sV s1) (h : ∀ z, sR s1 z → K z) : ((r2 = 35 →
      zCT zZC zmX4_number [.ref 1] s1 (zQl (fun r4 s3 =>
        zCT zZC zmX2_isUnchangedImport [.ref 2, .long r4] s3 (zQi (fun r6 s5 =>
          ((r6 = 0 →
            zCT zZC zmX4_octetWithin [.ref 1, .int (11 : Int32), .int (11 : Int32)] s5 (zQi (fun r8 s7 =>
              (((0 : Int32) = a2 →
                zQv K none s7) ∧ (¬ (0 : Int32) = a2 →
                zCT zZC zmX2_noteWrong [.ref 2, .int a1, .int (σ.1 1 2)] s7 (zQv (fun s9 =>
                  zQv K none s9)) QX)))) QX) ∧ (¬ r6 = 0 →
            zCT zZC zmX2_typeOfGlobal [.ref 2, .int (r4.toInt32)] s5 (zQi (fun r11 s10 =>
              zCT zZC zmX4_octetWithin [.ref 1, .int (11 : Int32), .int (11 : Int32)] s10 (zQi (fun r13 s12 =>
                ((r11 = a2 →
                  zQv K none s12) ∧ (¬ r11 = a2 →
                  zCT zZC zmX2_noteWrong [.ref 2, .int a1, .int (σ.1 1 2)] s12 (zQv (fun s14 =>
                    zQv K none s14)) QX)))) QX)) QX)))) QX)) QX) ∧ (¬ r2 = 35 →
    ((r2 = 65 →
      zCT zZC zmX4_skipSigned [.ref 1, .int (5 : Int32), .int (7 : Int32)] s1 (zQv (fun s15 =>
        zCT zZC zmX4_octetWithin [.ref 1, .int (11 : Int32), .int (11 : Int32)] s15 (zQi (fun r17 s16 =>
          (((127 : Int32) = a2 →
            zQv K none s16) ∧ (¬ (127 : Int32) = a2 →
            zCT zZC zmX2_noteWrong [.ref 2, .int a1, .int (σ.1 1 2)] s16 (zQv (fun s18 =>
              zQv K none s18)) QX)))) QX)) QX) ∧ (¬ r2 = 65 →
    ((r2 = 66 →
      zCT zZC zmX4_skipSigned [.ref 1, .int (10 : Int32), .int (0 : Int32)] s1 (zQv (fun s19 =>
        zCT zZC zmX4_octetWithin [.ref 1, .int (11 : Int32), .int (11 : Int32)] s19 (zQi (fun r21 s20 =>
          (((126 : Int32) = a2 →
            zQv K none s20) ∧ (¬ (126 : Int32) = a2 →
            zCT zZC zmX2_noteWrong [.ref 2, .int a1, .int (σ.1 1 2)] s20 (zQv (fun s22 =>
              zQv K none s22)) QX)))) QX)) QX) ∧ (¬ r2 = 66 →
      zCT zZC zmX4_fail [.ref 1, .int (1 : Int32), .int (σ.1 1 2)] s1 (zQv (fun s23 =>
        zCT zZC zmX4_octetWithin [.ref 1, .int (11 : Int32), .int (11 : Int32)] s23 (zQi (fun r25 s24 =>
          (((0 : Int32) = a2 →
            zQv K none s24) ∧ (¬ (0 : Int32) = a2 →
            zCT zZC zmX2_noteWrong [.ref 2, .int a1, .int (σ.1 1 2)] s24 (zQv (fun s26 =>
              zQv K none s26)) QX)))) QX)) QX)))))) := by
  have k0 : sR s1 s1 := ⟨sK.rf, hv⟩
  refine ⟨fun c1 => ?_, fun c1 => ?_⟩
  · refine sf_X4_number k0.2 (fun r4 s3 p3 k20 => ?_)
    have k2 := k0.trans k20
    refine sf_X2_isUnchangedImport k2.2 (fun r6 s5 b5 k40 => ?_)
    have k4 := k2.trans k40
    refine ⟨fun c6 => ?_, fun c6 => ?_⟩
    · refine sf_X4_octetWithin k4.2 (fun r8 s7 k70 => ?_)
      have k7 := k4.trans k70
      refine ⟨fun c8 => ?_, fun c8 => ?_⟩
      · exact h _ k7
      · refine sf_X2_noteWrong k7.2 (fun s9 k90 => ?_)
        have k9 := k7.trans k90
        exact h _ k9
    · refine sf_X2_typeOfGlobal k4.2 (fun r11 s10 k100 => ?_)
      have k10 := k4.trans k100
      refine sf_X4_octetWithin k10.2 (fun r13 s12 k110 => ?_)
      have k11 := k10.trans k110
      refine ⟨fun c12 => ?_, fun c12 => ?_⟩
      · exact h _ k11
      · refine sf_X2_noteWrong k11.2 (fun s14 k130 => ?_)
        have k13 := k11.trans k130
        exact h _ k13
  · refine ⟨fun c14 => ?_, fun c14 => ?_⟩
    · refine sf_X4_skipSigned k0.2 (by decide) (fun s15 k150 => ?_)
      have k15 := k0.trans k150
      refine sf_X4_octetWithin k15.2 (fun r17 s16 k160 => ?_)
      have k16 := k15.trans k160
      refine ⟨fun c17 => ?_, fun c17 => ?_⟩
      · exact h _ k16
      · refine sf_X2_noteWrong k16.2 (fun s18 k180 => ?_)
        have k18 := k16.trans k180
        exact h _ k18
    · refine ⟨fun c19 => ?_, fun c19 => ?_⟩
      · refine sf_X4_skipSigned k0.2 (by decide) (fun s19 k200 => ?_)
        have k20 := k0.trans k200
        refine sf_X4_octetWithin k20.2 (fun r21 s20 k210 => ?_)
        have k21 := k20.trans k210
        refine ⟨fun c22 => ?_, fun c22 => ?_⟩
        · exact h _ k21
        · refine sf_X2_noteWrong k21.2 (fun s22 k230 => ?_)
          have k23 := k21.trans k230
          exact h _ k23
      · refine sf_X4_fail k0.2 (fun s23 k240 => ?_)
        have k24 := k0.trans k240
        refine sf_X4_octetWithin k24.2 (fun r25 s24 k250 => ?_)
        have k25 := k24.trans k250
        refine ⟨fun c26 => ?_, fun c26 => ?_⟩
        · exact h _ k25
        · refine sf_X2_noteWrong k25.2 (fun s26 k270 => ?_)
          have k27 := k25.trans k270
          exact h _ k27
theorem er_X6_readConstant_0_1 {a1 : Int32} {a2 : Int32} {r4 : Int64} {σ : zS} {s3 : zS} {K : zS → Prop} {QX : zS → Prop} (hv : sV s3) (h : ∀ z, sR s3 z → K z) : zCT zZC zmX2_isUnchangedImport [.ref 2, .long r4] s3 (zQi (fun r6 s5 =>
          ((r6 = 0 →
            zCT zZC zmX4_octetWithin [.ref 1, .int (11 : Int32), .int (11 : Int32)] s5 (zQi (fun r8 s7 =>
              (((0 : Int32) = a2 →
                zQv K none s7) ∧ (¬ (0 : Int32) = a2 →
                zCT zZC zmX2_noteWrong [.ref 2, .int a1, .int (σ.1 1 2)] s7 (zQv (fun s9 =>
                  zQv K none s9)) QX)))) QX) ∧ (¬ r6 = 0 →
            zCT zZC zmX2_typeOfGlobal [.ref 2, .int (r4.toInt32)] s5 (zQi (fun r11 s10 =>
              zCT zZC zmX4_octetWithin [.ref 1, .int (11 : Int32), .int (11 : Int32)] s10 (zQi (fun r13 s12 =>
                ((r11 = a2 →
                  zQv K none s12) ∧ (¬ r11 = a2 →
                  zCT zZC zmX2_noteWrong [.ref 2, .int a1, .int (σ.1 1 2)] s12 (zQv (fun s14 =>
                    zQv K none s14)) QX)))) QX)) QX)))) QX := by
  have k0 : sR s3 s3 := ⟨sK.rf, hv⟩
  refine sf_X2_isUnchangedImport k0.2 (fun r6 s5 b2 k10 => ?_)
  have k1 := k0.trans k10
  refine ⟨fun c3 => ?_, fun c3 => ?_⟩
  · refine sf_X4_octetWithin k1.2 (fun r8 s7 k40 => ?_)
    have k4 := k1.trans k40
    refine ⟨fun c5 => ?_, fun c5 => ?_⟩
    · exact h _ k4
    · refine sf_X2_noteWrong k4.2 (fun s9 k60 => ?_)
      have k6 := k4.trans k60
      exact h _ k6
  · refine sf_X2_typeOfGlobal k1.2 (fun r11 s10 k70 => ?_)
    have k7 := k1.trans k70
    refine sf_X4_octetWithin k7.2 (fun r13 s12 k80 => ?_)
    have k8 := k7.trans k80
    refine ⟨fun c9 => ?_, fun c9 => ?_⟩
    · exact h _ k8
    · refine sf_X2_noteWrong k8.2 (fun s14 k100 => ?_)
      have k10 := k8.trans k100
      exact h _ k10
theorem er_X6_readConstant_0_2 {a1 : Int32} {a2 : Int32} {r4 : Int64} {r6 : Int32} {σ : zS} {s5 : zS} {K : zS → Prop} {QX : zS → Prop} (hv : sV s5) (h : ∀ z, sR s5 z → K z) : ((r6 = 0 →
            zCT zZC zmX4_octetWithin [.ref 1, .int (11 : Int32), .int (11 : Int32)] s5 (zQi (fun r8 s7 =>
              (((0 : Int32) = a2 →
                zQv K none s7) ∧ (¬ (0 : Int32) = a2 →
                zCT zZC zmX2_noteWrong [.ref 2, .int a1, .int (σ.1 1 2)] s7 (zQv (fun s9 =>
                  zQv K none s9)) QX)))) QX) ∧ (¬ r6 = 0 →
            zCT zZC zmX2_typeOfGlobal [.ref 2, .int (r4.toInt32)] s5 (zQi (fun r11 s10 =>
              zCT zZC zmX4_octetWithin [.ref 1, .int (11 : Int32), .int (11 : Int32)] s10 (zQi (fun r13 s12 =>
                ((r11 = a2 →
                  zQv K none s12) ∧ (¬ r11 = a2 →
                  zCT zZC zmX2_noteWrong [.ref 2, .int a1, .int (σ.1 1 2)] s12 (zQv (fun s14 =>
                    zQv K none s14)) QX)))) QX)) QX)) := by
  have k0 : sR s5 s5 := ⟨sK.rf, hv⟩
  refine ⟨fun c1 => ?_, fun c1 => ?_⟩
  · refine sf_X4_octetWithin k0.2 (fun r8 s7 k20 => ?_)
    have k2 := k0.trans k20
    refine ⟨fun c3 => ?_, fun c3 => ?_⟩
    · exact h _ k2
    · refine sf_X2_noteWrong k2.2 (fun s9 k40 => ?_)
      have k4 := k2.trans k40
      exact h _ k4
  · refine sf_X2_typeOfGlobal k0.2 (fun r11 s10 k50 => ?_)
    have k5 := k0.trans k50
    refine sf_X4_octetWithin k5.2 (fun r13 s12 k60 => ?_)
    have k6 := k5.trans k60
    refine ⟨fun c7 => ?_, fun c7 => ?_⟩
    · exact h _ k6
    · refine sf_X2_noteWrong k6.2 (fun s14 k80 => ?_)
      have k8 := k6.trans k80
      exact h _ k8
theorem er_X6_readConstant_0_3 {a1 : Int32} {a2 : Int32} {σ : zS} {s7 : zS} {K : zS → Prop} {QX : zS → Prop} (hv : sV s7) (h : ∀ z, sR s7 z → K z) : (((0 : Int32) = a2 →
                zQv K none s7) ∧ (¬ (0 : Int32) = a2 →
                zCT zZC zmX2_noteWrong [.ref 2, .int a1, .int (σ.1 1 2)] s7 (zQv (fun s9 =>
                  zQv K none s9)) QX)) := by
  have k0 : sR s7 s7 := ⟨sK.rf, hv⟩
  refine ⟨fun c1 => ?_, fun c1 => ?_⟩
  · exact h _ k0
  · refine sf_X2_noteWrong k0.2 (fun s9 k20 => ?_)
    have k2 := k0.trans k20
    exact h _ k2
theorem er_X6_readConstant_0_4 {s9 : zS} {K : zS → Prop} (hv : sV s9) (h : ∀ z, sR s9 z → K z) : zQv K none s9 := by
  have k0 : sR s9 s9 := ⟨sK.rf, hv⟩
  exact h _ k0
theorem er_X6_readConstant_0_5 {a1 : Int32} {a2 : Int32} {r11 : Int32} {σ : zS} {s10 : zS} {K : zS → Prop} {QX : zS → Prop} (hv : sV s10) (h : ∀ z, sR s10 z → K z) : zCT zZC zmX4_octetWithin [.ref 1, .int (11 : Int32), .int (11 : Int32)] s10 (zQi (fun r13 s12 =>
                ((r11 = a2 →
                  zQv K none s12) ∧ (¬ r11 = a2 →
                  zCT zZC zmX2_noteWrong [.ref 2, .int a1, .int (σ.1 1 2)] s12 (zQv (fun s14 =>
                    zQv K none s14)) QX)))) QX := by
  have k0 : sR s10 s10 := ⟨sK.rf, hv⟩
  refine sf_X4_octetWithin k0.2 (fun r13 s12 k10 => ?_)
  have k1 := k0.trans k10
  refine ⟨fun c2 => ?_, fun c2 => ?_⟩
  · exact h _ k1
  · refine sf_X2_noteWrong k1.2 (fun s14 k30 => ?_)
    have k3 := k1.trans k30
    exact h _ k3
theorem er_X6_readConstant_0_6 {a1 : Int32} {a2 : Int32} {r11 : Int32} {σ : zS} {s12 : zS} {K : zS → Prop} {QX : zS → Prop} (hv : sV s12) (h : ∀ z, sR s12 z → K z) : ((r11 = a2 →
                  zQv K none s12) ∧ (¬ r11 = a2 →
                  zCT zZC zmX2_noteWrong [.ref 2, .int a1, .int (σ.1 1 2)] s12 (zQv (fun s14 =>
                    zQv K none s14)) QX)) := by
  have k0 : sR s12 s12 := ⟨sK.rf, hv⟩
  refine ⟨fun c1 => ?_, fun c1 => ?_⟩
  · exact h _ k0
  · refine sf_X2_noteWrong k0.2 (fun s14 k20 => ?_)
    have k2 := k0.trans k20
    exact h _ k2
theorem er_X6_readConstant_0_7 {s14 : zS} {K : zS → Prop} (hv : sV s14) (h : ∀ z, sR s14 z → K z) : zQv K none s14 := by
  have k0 : sR s14 s14 := ⟨sK.rf, hv⟩
  exact h _ k0
theorem er_X6_readConstant_0_8 {a1 : Int32} {a2 : Int32} {σ : zS} {s15 : zS} {K : zS → Prop} {QX : zS → Prop} (hv : sV s15) (h : ∀ z, sR s15 z → K z) : zCT zZC zmX4_octetWithin [.ref 1, .int (11 : Int32), .int (11 : Int32)] s15 (zQi (fun r17 s16 =>
          (((127 : Int32) = a2 →
            zQv K none s16) ∧ (¬ (127 : Int32) = a2 →
            zCT zZC zmX2_noteWrong [.ref 2, .int a1, .int (σ.1 1 2)] s16 (zQv (fun s18 =>
              zQv K none s18)) QX)))) QX := by
  have k0 : sR s15 s15 := ⟨sK.rf, hv⟩
  refine sf_X4_octetWithin k0.2 (fun r17 s16 k10 => ?_)
  have k1 := k0.trans k10
  refine ⟨fun c2 => ?_, fun c2 => ?_⟩
  · exact h _ k1
  · refine sf_X2_noteWrong k1.2 (fun s18 k30 => ?_)
    have k3 := k1.trans k30
    exact h _ k3
theorem er_X6_readConstant_0_9 {a1 : Int32} {a2 : Int32} {σ : zS} {s16 : zS} {K : zS → Prop} {QX : zS → Prop} (hv : sV s16) (h : ∀ z, sR s16 z → K z) : (((127 : Int32) = a2 →
            zQv K none s16) ∧ (¬ (127 : Int32) = a2 →
            zCT zZC zmX2_noteWrong [.ref 2, .int a1, .int (σ.1 1 2)] s16 (zQv (fun s18 =>
              zQv K none s18)) QX)) := by
  have k0 : sR s16 s16 := ⟨sK.rf, hv⟩
  refine ⟨fun c1 => ?_, fun c1 => ?_⟩
  · exact h _ k0
  · refine sf_X2_noteWrong k0.2 (fun s18 k20 => ?_)
    have k2 := k0.trans k20
    exact h _ k2
theorem er_X6_readConstant_0_10 {s18 : zS} {K : zS → Prop} (hv : sV s18) (h : ∀ z, sR s18 z → K z) : zQv K none s18 := by
  have k0 : sR s18 s18 := ⟨sK.rf, hv⟩
  exact h _ k0
theorem er_X6_readConstant_0_11 {a1 : Int32} {a2 : Int32} {σ : zS} {s19 : zS} {K : zS → Prop} {QX : zS → Prop} (hv : sV s19) (h : ∀ z, sR s19 z → K z) : zCT zZC zmX4_octetWithin [.ref 1, .int (11 : Int32), .int (11 : Int32)] s19 (zQi (fun r21 s20 =>
          (((126 : Int32) = a2 →
            zQv K none s20) ∧ (¬ (126 : Int32) = a2 →
            zCT zZC zmX2_noteWrong [.ref 2, .int a1, .int (σ.1 1 2)] s20 (zQv (fun s22 =>
              zQv K none s22)) QX)))) QX := by
  have k0 : sR s19 s19 := ⟨sK.rf, hv⟩
  refine sf_X4_octetWithin k0.2 (fun r21 s20 k10 => ?_)
  have k1 := k0.trans k10
  refine ⟨fun c2 => ?_, fun c2 => ?_⟩
  · exact h _ k1
  · refine sf_X2_noteWrong k1.2 (fun s22 k30 => ?_)
    have k3 := k1.trans k30
    exact h _ k3
theorem er_X6_readConstant_0_12 {a1 : Int32} {a2 : Int32} {σ : zS} {s20 : zS} {K : zS → Prop} {QX : zS → Prop} (hv : sV s20) (h : ∀ z, sR s20 z → K z) : (((126 : Int32) = a2 →
            zQv K none s20) ∧ (¬ (126 : Int32) = a2 →
            zCT zZC zmX2_noteWrong [.ref 2, .int a1, .int (σ.1 1 2)] s20 (zQv (fun s22 =>
              zQv K none s22)) QX)) := by
  have k0 : sR s20 s20 := ⟨sK.rf, hv⟩
  refine ⟨fun c1 => ?_, fun c1 => ?_⟩
  · exact h _ k0
  · refine sf_X2_noteWrong k0.2 (fun s22 k20 => ?_)
    have k2 := k0.trans k20
    exact h _ k2
theorem er_X6_readConstant_0_13 {s22 : zS} {K : zS → Prop} (hv : sV s22) (h : ∀ z, sR s22 z → K z) : zQv K none s22 := by
  have k0 : sR s22 s22 := ⟨sK.rf, hv⟩
  exact h _ k0
theorem er_X6_readConstant_0_14 {a1 : Int32} {a2 : Int32} {σ : zS} {s23 : zS} {K : zS → Prop} {QX : zS → Prop} (hv : sV s23) (h : ∀ z, sR s23 z → K z) : zCT zZC zmX4_octetWithin [.ref 1, .int (11 : Int32), .int (11 : Int32)] s23 (zQi (fun r25 s24 =>
          (((0 : Int32) = a2 →
            zQv K none s24) ∧ (¬ (0 : Int32) = a2 →
            zCT zZC zmX2_noteWrong [.ref 2, .int a1, .int (σ.1 1 2)] s24 (zQv (fun s26 =>
              zQv K none s26)) QX)))) QX := by
  have k0 : sR s23 s23 := ⟨sK.rf, hv⟩
  refine sf_X4_octetWithin k0.2 (fun r25 s24 k10 => ?_)
  have k1 := k0.trans k10
  refine ⟨fun c2 => ?_, fun c2 => ?_⟩
  · exact h _ k1
  · refine sf_X2_noteWrong k1.2 (fun s26 k30 => ?_)
    have k3 := k1.trans k30
    exact h _ k3
theorem er_X6_readConstant_0_15 {a1 : Int32} {a2 : Int32} {σ : zS} {s24 : zS} {K : zS → Prop} {QX : zS → Prop} (hv : sV s24) (h : ∀ z, sR s24 z → K z) : (((0 : Int32) = a2 →
            zQv K none s24) ∧ (¬ (0 : Int32) = a2 →
            zCT zZC zmX2_noteWrong [.ref 2, .int a1, .int (σ.1 1 2)] s24 (zQv (fun s26 =>
              zQv K none s26)) QX)) := by
  have k0 : sR s24 s24 := ⟨sK.rf, hv⟩
  refine ⟨fun c1 => ?_, fun c1 => ?_⟩
  · exact h _ k0
  · refine sf_X2_noteWrong k0.2 (fun s26 k20 => ?_)
    have k2 := k0.trans k20
    exact h _ k2
theorem er_X6_readConstant_0_16 {s26 : zS} {K : zS → Prop} (hv : sV s26) (h : ∀ z, sR s26 z → K z) : zQv K none s26 := by
  have k0 : sR s26 s26 := ⟨sK.rf, hv⟩
  exact h _ k0
theorem er_X6_readLimits_0_0 {a1 : Int32} {a2 : Int32} {r2 : Int32} {σ : zS} {s1 : zS} {K : zS → Prop} {QX : zS → Prop} (hv : sV s1) (h : ∀ z, sR s1 z → K z) : ((r2 = (1 : Int32) →
      zCT zZC zmX4_number [.ref 1] s1 (zQl (fun r4 s3 =>
        (((1 : Int32) = 0 →
          ((r4 < r4 →
            zCT zZC zmX2_noteWrong [.ref 2, .int a1, .int (σ.1 1 2)] s3 (zQv (fun s5 =>
              zQv K none s5)) QX) ∧ (¬ r4 < r4 →
            ((a2 = 0 →
              zQv K none s3) ∧ (¬ a2 = 0 →
              ((r4 ≤ (65536 : Int64) →
                zQv K none s3) ∧ (¬ r4 ≤ (65536 : Int64) →
                zCT zZC zmX2_noteWrong [.ref 2, .int a1, .int (σ.1 1 2)] s3 (zQv (fun s6 =>
                  zQv K none s6)) QX))))))) ∧ (¬ (1 : Int32) = 0 →
          zCT zZC zmX4_number [.ref 1] s3 (zQl (fun r8 s7 =>
            ((r8 < r4 →
              zCT zZC zmX2_noteWrong [.ref 2, .int a1, .int (σ.1 1 2)] s7 (zQv (fun s9 =>
                zQv K none s9)) QX) ∧ (¬ r8 < r4 →
              ((a2 = 0 →
                zQv K none s7) ∧ (¬ a2 = 0 →
                ((r8 ≤ (65536 : Int64) →
                  zQv K none s7) ∧ (¬ r8 ≤ (65536 : Int64) →
                  zCT zZC zmX2_noteWrong [.ref 2, .int a1, .int (σ.1 1 2)] s7 (zQv (fun s10 =>
                    zQv K none s10)) QX)))))))) QX)))) QX) ∧ (¬ r2 = (1 : Int32) →
      zCT zZC zmX4_number [.ref 1] s1 (zQl (fun r12 s11 =>
        (((0 : Int32) = 0 →
          ((r12 < r12 →
            zCT zZC zmX2_noteWrong [.ref 2, .int a1, .int (σ.1 1 2)] s11 (zQv (fun s13 =>
              zQv K none s13)) QX) ∧ (¬ r12 < r12 →
            ((a2 = 0 →
              zQv K none s11) ∧ (¬ a2 = 0 →
              ((r12 ≤ (65536 : Int64) →
                zQv K none s11) ∧ (¬ r12 ≤ (65536 : Int64) →
                zCT zZC zmX2_noteWrong [.ref 2, .int a1, .int (σ.1 1 2)] s11 (zQv (fun s14 =>
                  zQv K none s14)) QX))))))) ∧ (¬ (0 : Int32) = 0 →
          zCT zZC zmX4_number [.ref 1] s11 (zQl (fun r16 s15 =>
            ((r16 < r12 →
              zCT zZC zmX2_noteWrong [.ref 2, .int a1, .int (σ.1 1 2)] s15 (zQv (fun s17 =>
                zQv K none s17)) QX) ∧ (¬ r16 < r12 →
              ((a2 = 0 →
                zQv K none s15) ∧ (¬ a2 = 0 →
                ((r16 ≤ (65536 : Int64) →
                  zQv K none s15) ∧ (¬ r16 ≤ (65536 : Int64) →
                  zCT zZC zmX2_noteWrong [.ref 2, .int a1, .int (σ.1 1 2)] s15 (zQv (fun s18 =>
                    zQv K none s18)) QX)))))))) QX)))) QX)) := by
  have k0 : sR s1 s1 := ⟨sK.rf, hv⟩
  refine ⟨fun c1 => ?_, fun c1 => ?_⟩
  · refine sf_X4_number k0.2 (fun r4 s3 p3 k20 => ?_)
    have k2 := k0.trans k20
    refine ⟨fun c4 => ?_, fun c4 => ?_⟩
    · exact absurd c4 (by decide)
    · refine sf_X4_number k2.2 (fun r8 s7 p6 k50 => ?_)
      have k5 := k2.trans k50
      refine ⟨fun c7 => ?_, fun c7 => ?_⟩
      · refine sf_X2_noteWrong k5.2 (fun s9 k80 => ?_)
        have k8 := k5.trans k80
        exact h _ k8
      · refine ⟨fun c9 => ?_, fun c9 => ?_⟩
        · exact h _ k5
        · refine ⟨fun c10 => ?_, fun c10 => ?_⟩
          · exact h _ k5
          · refine sf_X2_noteWrong k5.2 (fun s10 k110 => ?_)
            have k11 := k5.trans k110
            exact h _ k11
  · refine sf_X4_number k0.2 (fun r12 s11 p13 k120 => ?_)
    have k12 := k0.trans k120
    refine ⟨fun c14 => ?_, fun c14 => ?_⟩
    · refine ⟨fun c15 => ?_, fun c15 => ?_⟩
      · refine sf_X2_noteWrong k12.2 (fun s13 k160 => ?_)
        have k16 := k12.trans k160
        exact h _ k16
      · refine ⟨fun c17 => ?_, fun c17 => ?_⟩
        · exact h _ k12
        · refine ⟨fun c18 => ?_, fun c18 => ?_⟩
          · exact h _ k12
          · refine sf_X2_noteWrong k12.2 (fun s14 k190 => ?_)
            have k19 := k12.trans k190
            exact h _ k19
    · exact absurd (by decide) c14
theorem er_X6_readLimits_0_1 {a1 : Int32} {a2 : Int32} {r4 : Int64} {σ : zS} {s3 : zS} {K : zS → Prop} {QX : zS → Prop} (hv : sV s3) (h : ∀ z, sR s3 z → K z) : (((1 : Int32) = 0 →
          ((r4 < r4 →
            zCT zZC zmX2_noteWrong [.ref 2, .int a1, .int (σ.1 1 2)] s3 (zQv (fun s5 =>
              zQv K none s5)) QX) ∧ (¬ r4 < r4 →
            ((a2 = 0 →
              zQv K none s3) ∧ (¬ a2 = 0 →
              ((r4 ≤ (65536 : Int64) →
                zQv K none s3) ∧ (¬ r4 ≤ (65536 : Int64) →
                zCT zZC zmX2_noteWrong [.ref 2, .int a1, .int (σ.1 1 2)] s3 (zQv (fun s6 =>
                  zQv K none s6)) QX))))))) ∧ (¬ (1 : Int32) = 0 →
          zCT zZC zmX4_number [.ref 1] s3 (zQl (fun r8 s7 =>
            ((r8 < r4 →
              zCT zZC zmX2_noteWrong [.ref 2, .int a1, .int (σ.1 1 2)] s7 (zQv (fun s9 =>
                zQv K none s9)) QX) ∧ (¬ r8 < r4 →
              ((a2 = 0 →
                zQv K none s7) ∧ (¬ a2 = 0 →
                ((r8 ≤ (65536 : Int64) →
                  zQv K none s7) ∧ (¬ r8 ≤ (65536 : Int64) →
                  zCT zZC zmX2_noteWrong [.ref 2, .int a1, .int (σ.1 1 2)] s7 (zQv (fun s10 =>
                    zQv K none s10)) QX)))))))) QX)) := by
  have k0 : sR s3 s3 := ⟨sK.rf, hv⟩
  refine ⟨fun c1 => ?_, fun c1 => ?_⟩
  · exact absurd c1 (by decide)
  · refine sf_X4_number k0.2 (fun r8 s7 p3 k20 => ?_)
    have k2 := k0.trans k20
    refine ⟨fun c4 => ?_, fun c4 => ?_⟩
    · refine sf_X2_noteWrong k2.2 (fun s9 k50 => ?_)
      have k5 := k2.trans k50
      exact h _ k5
    · refine ⟨fun c6 => ?_, fun c6 => ?_⟩
      · exact h _ k2
      · refine ⟨fun c7 => ?_, fun c7 => ?_⟩
        · exact h _ k2
        · refine sf_X2_noteWrong k2.2 (fun s10 k80 => ?_)
          have k8 := k2.trans k80
          exact h _ k8
theorem er_X6_readLimits_0_2 {s5 : zS} {K : zS → Prop} (hv : sV s5) (h : ∀ z, sR s5 z → K z) : zQv K none s5 := by
  have k0 : sR s5 s5 := ⟨sK.rf, hv⟩
  exact h _ k0
theorem er_X6_readLimits_0_3 {s6 : zS} {K : zS → Prop} (hv : sV s6) (h : ∀ z, sR s6 z → K z) : zQv K none s6 := by
  have k0 : sR s6 s6 := ⟨sK.rf, hv⟩
  exact h _ k0
theorem er_X6_readLimits_0_4 {a1 : Int32} {a2 : Int32} {r4 : Int64} {r8 : Int64} {σ : zS} {s7 : zS} {K : zS → Prop} {QX : zS → Prop} (hv : sV s7) (h : ∀ z, sR s7 z → K z) : ((r8 < r4 →
              zCT zZC zmX2_noteWrong [.ref 2, .int a1, .int (σ.1 1 2)] s7 (zQv (fun s9 =>
                zQv K none s9)) QX) ∧ (¬ r8 < r4 →
              ((a2 = 0 →
                zQv K none s7) ∧ (¬ a2 = 0 →
                ((r8 ≤ (65536 : Int64) →
                  zQv K none s7) ∧ (¬ r8 ≤ (65536 : Int64) →
                  zCT zZC zmX2_noteWrong [.ref 2, .int a1, .int (σ.1 1 2)] s7 (zQv (fun s10 =>
                    zQv K none s10)) QX)))))) := by
  have k0 : sR s7 s7 := ⟨sK.rf, hv⟩
  refine ⟨fun c1 => ?_, fun c1 => ?_⟩
  · refine sf_X2_noteWrong k0.2 (fun s9 k20 => ?_)
    have k2 := k0.trans k20
    exact h _ k2
  · refine ⟨fun c3 => ?_, fun c3 => ?_⟩
    · exact h _ k0
    · refine ⟨fun c4 => ?_, fun c4 => ?_⟩
      · exact h _ k0
      · refine sf_X2_noteWrong k0.2 (fun s10 k50 => ?_)
        have k5 := k0.trans k50
        exact h _ k5
theorem er_X6_readLimits_0_5 {s9 : zS} {K : zS → Prop} (hv : sV s9) (h : ∀ z, sR s9 z → K z) : zQv K none s9 := by
  have k0 : sR s9 s9 := ⟨sK.rf, hv⟩
  exact h _ k0
theorem er_X6_readLimits_0_6 {s10 : zS} {K : zS → Prop} (hv : sV s10) (h : ∀ z, sR s10 z → K z) : zQv K none s10 := by
  have k0 : sR s10 s10 := ⟨sK.rf, hv⟩
  exact h _ k0
theorem er_X6_readLimits_0_7 {a1 : Int32} {a2 : Int32} {r12 : Int64} {σ : zS} {s11 : zS} {K : zS → Prop} {QX : zS → Prop} (hv : sV s11) (h : ∀ z, sR s11 z → K z) : (((0 : Int32) = 0 →
          ((r12 < r12 →
            zCT zZC zmX2_noteWrong [.ref 2, .int a1, .int (σ.1 1 2)] s11 (zQv (fun s13 =>
              zQv K none s13)) QX) ∧ (¬ r12 < r12 →
            ((a2 = 0 →
              zQv K none s11) ∧ (¬ a2 = 0 →
              ((r12 ≤ (65536 : Int64) →
                zQv K none s11) ∧ (¬ r12 ≤ (65536 : Int64) →
                zCT zZC zmX2_noteWrong [.ref 2, .int a1, .int (σ.1 1 2)] s11 (zQv (fun s14 =>
                  zQv K none s14)) QX))))))) ∧ (¬ (0 : Int32) = 0 →
          zCT zZC zmX4_number [.ref 1] s11 (zQl (fun r16 s15 =>
            ((r16 < r12 →
              zCT zZC zmX2_noteWrong [.ref 2, .int a1, .int (σ.1 1 2)] s15 (zQv (fun s17 =>
                zQv K none s17)) QX) ∧ (¬ r16 < r12 →
              ((a2 = 0 →
                zQv K none s15) ∧ (¬ a2 = 0 →
                ((r16 ≤ (65536 : Int64) →
                  zQv K none s15) ∧ (¬ r16 ≤ (65536 : Int64) →
                  zCT zZC zmX2_noteWrong [.ref 2, .int a1, .int (σ.1 1 2)] s15 (zQv (fun s18 =>
                    zQv K none s18)) QX)))))))) QX)) := by
  have k0 : sR s11 s11 := ⟨sK.rf, hv⟩
  refine ⟨fun c1 => ?_, fun c1 => ?_⟩
  · refine ⟨fun c2 => ?_, fun c2 => ?_⟩
    · refine sf_X2_noteWrong k0.2 (fun s13 k30 => ?_)
      have k3 := k0.trans k30
      exact h _ k3
    · refine ⟨fun c4 => ?_, fun c4 => ?_⟩
      · exact h _ k0
      · refine ⟨fun c5 => ?_, fun c5 => ?_⟩
        · exact h _ k0
        · refine sf_X2_noteWrong k0.2 (fun s14 k60 => ?_)
          have k6 := k0.trans k60
          exact h _ k6
  · exact absurd (by decide) c1
theorem er_X6_readLimits_0_8 {s13 : zS} {K : zS → Prop} (hv : sV s13) (h : ∀ z, sR s13 z → K z) : zQv K none s13 := by
  have k0 : sR s13 s13 := ⟨sK.rf, hv⟩
  exact h _ k0
theorem er_X6_readLimits_0_9 {s14 : zS} {K : zS → Prop} (hv : sV s14) (h : ∀ z, sR s14 z → K z) : zQv K none s14 := by
  have k0 : sR s14 s14 := ⟨sK.rf, hv⟩
  exact h _ k0
theorem er_X6_readLimits_0_10 {a1 : Int32} {a2 : Int32} {r12 : Int64} {r16 : Int64} {σ : zS} {s15 : zS} {K : zS → Prop} {QX : zS → Prop} (hv : sV s15) (h : ∀ z, sR s15 z → K z) : ((r16 < r12 →
              zCT zZC zmX2_noteWrong [.ref 2, .int a1, .int (σ.1 1 2)] s15 (zQv (fun s17 =>
                zQv K none s17)) QX) ∧ (¬ r16 < r12 →
              ((a2 = 0 →
                zQv K none s15) ∧ (¬ a2 = 0 →
                ((r16 ≤ (65536 : Int64) →
                  zQv K none s15) ∧ (¬ r16 ≤ (65536 : Int64) →
                  zCT zZC zmX2_noteWrong [.ref 2, .int a1, .int (σ.1 1 2)] s15 (zQv (fun s18 =>
                    zQv K none s18)) QX)))))) := by
  have k0 : sR s15 s15 := ⟨sK.rf, hv⟩
  refine ⟨fun c1 => ?_, fun c1 => ?_⟩
  · refine sf_X2_noteWrong k0.2 (fun s17 k20 => ?_)
    have k2 := k0.trans k20
    exact h _ k2
  · refine ⟨fun c3 => ?_, fun c3 => ?_⟩
    · exact h _ k0
    · refine ⟨fun c4 => ?_, fun c4 => ?_⟩
      · exact h _ k0
      · refine sf_X2_noteWrong k0.2 (fun s18 k50 => ?_)
        have k5 := k0.trans k50
        exact h _ k5
theorem er_X6_readLimits_0_11 {s17 : zS} {K : zS → Prop} (hv : sV s17) (h : ∀ z, sR s17 z → K z) : zQv K none s17 := by
  have k0 : sR s17 s17 := ⟨sK.rf, hv⟩
  exact h _ k0
theorem er_X6_readLimits_0_12 {s18 : zS} {K : zS → Prop} (hv : sV s18) (h : ∀ z, sR s18 z → K z) : zQv K none s18 := by
  have k0 : sR s18 s18 := ⟨sK.rf, hv⟩
  exact h _ k0
theorem er_X6_readSectionNumber_0_0 {r2 : Int32} {σ : zS} {s1 : zS} {K : Int32 → zS → Prop} {QX : zS → Prop} (hv : sV s1) (h : ∀ r z, sR s1 z → K r z) : ((r2 ≤ 0 →
      zQi K (some (.int (0 : Int32))) s1) ∧ (¬ r2 ≤ 0 →
      ((r2 < (13 : Int32) →
        vp_in r2 zt_SECTION_ORDER_n ∧
        (((s1.1 3 5) < (zt_SECTION_ORDER_f r2.toNatClampNeg) →
          vp_in r2 zt_SECTION_ORDER_n ∧
          ∀ s3 : zS, s3 = zsI s1 3 5 (zt_SECTION_ORDER_f r2.toNatClampNeg) →
          zQi K (some (.int r2)) s3) ∧ (¬ (s1.1 3 5) < (zt_SECTION_ORDER_f r2.toNatClampNeg) →
          zCT zZC zmX4_fail [.ref 1, .int (1 : Int32), .int (σ.1 1 2)] s1 (zQv (fun s4 =>
            vp_in r2 zt_SECTION_ORDER_n ∧
            ∀ s5 : zS, s5 = zsI s4 3 5 (zt_SECTION_ORDER_f r2.toNatClampNeg) →
            zQi K (some (.int r2)) s5)) QX))) ∧ (¬ r2 < (13 : Int32) →
        zQi K (some (.int (0 : Int32))) s1)))) := by
  have k0 : sR s1 s1 := ⟨sK.rf, hv⟩
  refine ⟨fun c1 => ?_, fun c1 => ?_⟩
  · exact h _ _ k0
  · refine ⟨fun c2 => ?_, fun c2 => ?_⟩
    · refine ⟨(vp_lh (vl_3 c1) (vh_2 c2) (by decide)), ?_⟩
      refine ⟨fun c3 => ?_, fun c3 => ?_⟩
      · refine ⟨(vp_lh (vl_3 c1) (vh_2 c2) (by decide)), ?_⟩
        intro s3 e4
        have k5 : sR s1 s3 := by rw [e4]; exact k0.i _ (by omega)
        exact h _ _ k5
      · refine sf_X4_fail k0.2 (fun s4 k60 => ?_)
        have k6 := k0.trans k60
        refine ⟨(vp_lh (vl_3 c1) (vh_2 c2) (by decide)), ?_⟩
        intro s5 e7
        have k8 : sR s1 s5 := by rw [e7]; exact k6.i _ (by omega)
        exact h _ _ k8
    · exact h _ _ k0
theorem er_X6_readSectionNumber_0_1 {r2 : Int32} {s4 : zS} {K : Int32 → zS → Prop} (hv : sV s4) (h : ∀ r z, sR s4 z → K r z) (hI0 : vp_in r2 zt_SECTION_ORDER_n) : vp_in r2 zt_SECTION_ORDER_n ∧
            ∀ s5 : zS, s5 = zsI s4 3 5 (zt_SECTION_ORDER_f r2.toNatClampNeg) →
            zQi K (some (.int r2)) s5 := by
  have k0 : sR s4 s4 := ⟨sK.rf, hv⟩
  refine ⟨hI0, ?_⟩
  intro s5 e1
  have k2 : sR s4 s5 := by rw [e1]; exact k0.i _ (by omega)
  exact h _ _ k2
theorem er_X6_readSignatureOfFunction_0_0 {a1 : Int32} {r2 : Int64} {σ : zS} {s1 : zS} {K : zS → Prop} {QX : zS → Prop} (hv : sV s1) (h : ∀ z, sR s1 z → K z) : vp_in (1 : Int32) 13 ∧
    ((r2 < ((s1.1 18 (1 : Int32).toNatClampNeg).toInt64) →
      zCT zZC zmX2_addFunction [.ref 2, .long r2] s1 (zQv (fun s3 =>
        zQv K none s3)) QX) ∧ (¬ r2 < ((s1.1 18 (1 : Int32).toNatClampNeg).toInt64) →
      zCT zZC zmX2_noteWrong [.ref 2, .int a1, .int (σ.1 1 2)] s1 (zQv (fun s4 =>
        zCT zZC zmX2_addFunction [.ref 2, .long r2] s4 (zQv (fun s5 =>
          zQv K none s5)) QX)) QX)) := by
  have k0 : sR s1 s1 := ⟨sK.rf, hv⟩
  refine ⟨(by unfold vp_in; decide), ?_⟩
  refine ⟨fun c1 => ?_, fun c1 => ?_⟩
  · refine sf_X2_addFunction k0.2 (fun s3 k20 => ?_)
    have k2 := k0.trans k20
    exact h _ k2
  · refine sf_X2_noteWrong k0.2 (fun s4 k30 => ?_)
    have k3 := k0.trans k30
    refine sf_X2_addFunction k3.2 (fun s5 k40 => ?_)
    have k4 := k3.trans k40
    exact h _ k4
theorem er_X6_readSignatureOfFunction_0_1 {s3 : zS} {K : zS → Prop} (hv : sV s3) (h : ∀ z, sR s3 z → K z) : zQv K none s3 := by
  have k0 : sR s3 s3 := ⟨sK.rf, hv⟩
  exact h _ k0
theorem er_X6_readSignatureOfFunction_0_2 {r2 : Int64} {s4 : zS} {K : zS → Prop} {QX : zS → Prop} (hv : sV s4) (h : ∀ z, sR s4 z → K z) : zCT zZC zmX2_addFunction [.ref 2, .long r2] s4 (zQv (fun s5 =>
          zQv K none s5)) QX := by
  have k0 : sR s4 s4 := ⟨sK.rf, hv⟩
  refine sf_X2_addFunction k0.2 (fun s5 k10 => ?_)
  have k1 := k0.trans k10
  exact h _ k1
theorem er_X6_readSignatureOfFunction_0_3 {s5 : zS} {K : zS → Prop} (hv : sV s5) (h : ∀ z, sR s5 z → K z) : zQv K none s5 := by
  have k0 : sR s5 s5 := ⟨sK.rf, hv⟩
  exact h _ k0
theorem er_X6_readStart_0_0 {r2 : Int64} {σ : zS} {s1 : zS} {K : zS → Prop} {QX : zS → Prop} (hv : sV s1) (h : ∀ z, sR s1 z → K z) : zCT zZC zmX2_signatureOf [.ref 2, .long r2] s1 (zQi (fun r4 s3 =>
      ((r4 < 0 →
        zCT zZC zmX2_noteWrong [.ref 2, .int (9 : Int32), .int (σ.1 1 2)] s3 (zQv (fun s5 =>
          zQv K none s5)) QX) ∧ (¬ r4 < 0 →
        zCT zZC zmX2_parameterCount [.ref 2, .int r4] s3 (zQi (fun r7 s6 =>
          ((0 < r7 →
            zCT zZC zmX2_noteWrong [.ref 2, .int (9 : Int32), .int (σ.1 1 2)] s6 (zQv (fun s8 =>
              zQv K none s8)) QX) ∧ (¬ 0 < r7 →
            zCT zZC zmX2_resultOf [.ref 2, .int r4] s6 (zQi (fun r10 s9 =>
              ((r10 = (64 : Int32) →
                zQv K none s9) ∧ (¬ r10 = (64 : Int32) →
                zCT zZC zmX2_noteWrong [.ref 2, .int (9 : Int32), .int (σ.1 1 2)] s9 (zQv (fun s11 =>
                  zQv K none s11)) QX)))) QX)))) QX)))) QX := by
  have k0 : sR s1 s1 := ⟨sK.rf, hv⟩
  refine sf_X2_signatureOf k0.2 (fun r4 s3 k10 => ?_)
  have k1 := k0.trans k10
  refine ⟨fun c2 => ?_, fun c2 => ?_⟩
  · refine sf_X2_noteWrong k1.2 (fun s5 k30 => ?_)
    have k3 := k1.trans k30
    exact h _ k3
  · refine sf_X2_parameterCount k1.2 (fun r7 s6 k40 => ?_)
    have k4 := k1.trans k40
    refine ⟨fun c5 => ?_, fun c5 => ?_⟩
    · refine sf_X2_noteWrong k4.2 (fun s8 k60 => ?_)
      have k6 := k4.trans k60
      exact h _ k6
    · refine sf_X2_resultOf k4.2 (fun r10 s9 k70 => ?_)
      have k7 := k4.trans k70
      refine ⟨fun c8 => ?_, fun c8 => ?_⟩
      · exact h _ k7
      · refine sf_X2_noteWrong k7.2 (fun s11 k90 => ?_)
        have k9 := k7.trans k90
        exact h _ k9
theorem er_X6_readStart_0_1 {r4 : Int32} {σ : zS} {s3 : zS} {K : zS → Prop} {QX : zS → Prop} (hv : sV s3) (h : ∀ z, sR s3 z → K z) : ((r4 < 0 →
        zCT zZC zmX2_noteWrong [.ref 2, .int (9 : Int32), .int (σ.1 1 2)] s3 (zQv (fun s5 =>
          zQv K none s5)) QX) ∧ (¬ r4 < 0 →
        zCT zZC zmX2_parameterCount [.ref 2, .int r4] s3 (zQi (fun r7 s6 =>
          ((0 < r7 →
            zCT zZC zmX2_noteWrong [.ref 2, .int (9 : Int32), .int (σ.1 1 2)] s6 (zQv (fun s8 =>
              zQv K none s8)) QX) ∧ (¬ 0 < r7 →
            zCT zZC zmX2_resultOf [.ref 2, .int r4] s6 (zQi (fun r10 s9 =>
              ((r10 = (64 : Int32) →
                zQv K none s9) ∧ (¬ r10 = (64 : Int32) →
                zCT zZC zmX2_noteWrong [.ref 2, .int (9 : Int32), .int (σ.1 1 2)] s9 (zQv (fun s11 =>
                  zQv K none s11)) QX)))) QX)))) QX)) := by
  have k0 : sR s3 s3 := ⟨sK.rf, hv⟩
  refine ⟨fun c1 => ?_, fun c1 => ?_⟩
  · refine sf_X2_noteWrong k0.2 (fun s5 k20 => ?_)
    have k2 := k0.trans k20
    exact h _ k2
  · refine sf_X2_parameterCount k0.2 (fun r7 s6 k30 => ?_)
    have k3 := k0.trans k30
    refine ⟨fun c4 => ?_, fun c4 => ?_⟩
    · refine sf_X2_noteWrong k3.2 (fun s8 k50 => ?_)
      have k5 := k3.trans k50
      exact h _ k5
    · refine sf_X2_resultOf k3.2 (fun r10 s9 k60 => ?_)
      have k6 := k3.trans k60
      refine ⟨fun c7 => ?_, fun c7 => ?_⟩
      · exact h _ k6
      · refine sf_X2_noteWrong k6.2 (fun s11 k80 => ?_)
        have k8 := k6.trans k80
        exact h _ k8
theorem er_X6_readStart_0_2 {s5 : zS} {K : zS → Prop} (hv : sV s5) (h : ∀ z, sR s5 z → K z) : zQv K none s5 := by
  have k0 : sR s5 s5 := ⟨sK.rf, hv⟩
  exact h _ k0
theorem er_X6_readStart_0_3 {r4 : Int32} {r7 : Int32} {σ : zS} {s6 : zS} {K : zS → Prop} {QX : zS → Prop} (hv : sV s6) (h : ∀ z, sR s6 z → K z) : ((0 < r7 →
            zCT zZC zmX2_noteWrong [.ref 2, .int (9 : Int32), .int (σ.1 1 2)] s6 (zQv (fun s8 =>
              zQv K none s8)) QX) ∧ (¬ 0 < r7 →
            zCT zZC zmX2_resultOf [.ref 2, .int r4] s6 (zQi (fun r10 s9 =>
              ((r10 = (64 : Int32) →
                zQv K none s9) ∧ (¬ r10 = (64 : Int32) →
                zCT zZC zmX2_noteWrong [.ref 2, .int (9 : Int32), .int (σ.1 1 2)] s9 (zQv (fun s11 =>
                  zQv K none s11)) QX)))) QX)) := by
  have k0 : sR s6 s6 := ⟨sK.rf, hv⟩
  refine ⟨fun c1 => ?_, fun c1 => ?_⟩
  · refine sf_X2_noteWrong k0.2 (fun s8 k20 => ?_)
    have k2 := k0.trans k20
    exact h _ k2
  · refine sf_X2_resultOf k0.2 (fun r10 s9 k30 => ?_)
    have k3 := k0.trans k30
    refine ⟨fun c4 => ?_, fun c4 => ?_⟩
    · exact h _ k3
    · refine sf_X2_noteWrong k3.2 (fun s11 k50 => ?_)
      have k5 := k3.trans k50
      exact h _ k5
theorem er_X6_readStart_0_4 {s8 : zS} {K : zS → Prop} (hv : sV s8) (h : ∀ z, sR s8 z → K z) : zQv K none s8 := by
  have k0 : sR s8 s8 := ⟨sK.rf, hv⟩
  exact h _ k0
theorem er_X6_readStart_0_5 {r10 : Int32} {σ : zS} {s9 : zS} {K : zS → Prop} {QX : zS → Prop} (hv : sV s9) (h : ∀ z, sR s9 z → K z) : ((r10 = (64 : Int32) →
                zQv K none s9) ∧ (¬ r10 = (64 : Int32) →
                zCT zZC zmX2_noteWrong [.ref 2, .int (9 : Int32), .int (σ.1 1 2)] s9 (zQv (fun s11 =>
                  zQv K none s11)) QX)) := by
  have k0 : sR s9 s9 := ⟨sK.rf, hv⟩
  refine ⟨fun c1 => ?_, fun c1 => ?_⟩
  · exact h _ k0
  · refine sf_X2_noteWrong k0.2 (fun s11 k20 => ?_)
    have k2 := k0.trans k20
    exact h _ k2
theorem er_X6_readStart_0_6 {s11 : zS} {K : zS → Prop} (hv : sV s11) (h : ∀ z, sR s11 z → K z) : zQv K none s11 := by
  have k0 : sR s11 s11 := ⟨sK.rf, hv⟩
  exact h _ k0
theorem er_X1_readGroups_0_0 {r2 : Int32} {s1 : zS} {K13 : Int32 → Int64 → Int32 → zS → Prop} {K : zS → Prop} (hv : sV s1) (h : ∀ z, sR s1 z → K z) (hK0 : ∀ (z : zS), sR s1 z → K13 r2 (0 : Int64) (0 : Int32) z) : K13 r2 (0 : Int64) (0 : Int32) s1 := by
  have k0 : sR s1 s1 := ⟨sK.rf, hv⟩
  exact hK0  _ k0
theorem er_X1_readGroups_13_0 {r2 : Int64} {x1 : Int32} {x2 : Int64} {x4 : Int32} {σ : zS} {s1 : zS} {K13 : Int32 → Int64 → Int32 → zS → Prop} {K : zS → Prop} {QX : zS → Prop} (hv : sV s1) (h : ∀ z, sR s1 z → K z) (hK0 : ∀ (z : zS), sR s1 z → K13 x1 (x2 + r2) (x4 + 1) z) : zCT zZC zmX4_type [.ref 1] s1 (zQi (fun r4 s3 =>
          (((x2 + r2) ≤ (64 : Int64) →
            zCT zZC zmX7_addLocals [.ref 7, .int (r2.toInt32), .int r4] s3 (zQv (fun s5 =>
              K13 x1 (x2 + r2) (x4 + 1) s5)) QX) ∧ (¬ (x2 + r2) ≤ (64 : Int64) →
            zCT zZC zmX4_fail [.ref 1, .int (4 : Int32), .int (σ.1 1 2)] s3 (zQv (fun s6 =>
              K13 x1 (x2 + r2) (x4 + 1) s6)) QX)))) QX := by
  have k0 : sR s1 s1 := ⟨sK.rf, hv⟩
  refine sf_X4_type k0.2 (fun r4 s3 k10 => ?_)
  have k1 := k0.trans k10
  refine ⟨fun c2 => ?_, fun c2 => ?_⟩
  · refine sf_X7_addLocals k1.2 (fun s5 k30 => ?_)
    have k3 := k1.trans k30
    exact hK0  _ k3
  · refine sf_X4_fail k1.2 (fun s6 k40 => ?_)
    have k4 := k1.trans k40
    exact hK0  _ k4
theorem er_X1_readGroups_13_1 {r2 : Int64} {r4 : Int32} {x1 : Int32} {x2 : Int64} {x4 : Int32} {σ : zS} {s3 : zS} {K13 : Int32 → Int64 → Int32 → zS → Prop} {K : zS → Prop} {QX : zS → Prop} (hv : sV s3) (h : ∀ z, sR s3 z → K z) (hK0 : ∀ (z : zS), sR s3 z → K13 x1 (x2 + r2) (x4 + 1) z) : (((x2 + r2) ≤ (64 : Int64) →
            zCT zZC zmX7_addLocals [.ref 7, .int (r2.toInt32), .int r4] s3 (zQv (fun s5 =>
              K13 x1 (x2 + r2) (x4 + 1) s5)) QX) ∧ (¬ (x2 + r2) ≤ (64 : Int64) →
            zCT zZC zmX4_fail [.ref 1, .int (4 : Int32), .int (σ.1 1 2)] s3 (zQv (fun s6 =>
              K13 x1 (x2 + r2) (x4 + 1) s6)) QX)) := by
  have k0 : sR s3 s3 := ⟨sK.rf, hv⟩
  refine ⟨fun c1 => ?_, fun c1 => ?_⟩
  · refine sf_X7_addLocals k0.2 (fun s5 k20 => ?_)
    have k2 := k0.trans k20
    exact hK0  _ k2
  · refine sf_X4_fail k0.2 (fun s6 k30 => ?_)
    have k3 := k0.trans k30
    exact hK0  _ k3
theorem er_X1_readGroups_13_2 {r2 : Int64} {x1 : Int32} {x2 : Int64} {x4 : Int32} {s5 : zS} {K13 : Int32 → Int64 → Int32 → zS → Prop} {K : zS → Prop} (hv : sV s5) (h : ∀ z, sR s5 z → K z) (hK0 : ∀ (z : zS), sR s5 z → K13 x1 (x2 + r2) (x4 + 1) z) : K13 x1 (x2 + r2) (x4 + 1) s5 := by
  have k0 : sR s5 s5 := ⟨sK.rf, hv⟩
  exact hK0  _ k0
theorem er_X1_readGroups_13_3 {r2 : Int64} {x1 : Int32} {x2 : Int64} {x4 : Int32} {s6 : zS} {K13 : Int32 → Int64 → Int32 → zS → Prop} {K : zS → Prop} (hv : sV s6) (h : ∀ z, sR s6 z → K z) (hK0 : ∀ (z : zS), sR s6 z → K13 x1 (x2 + r2) (x4 + 1) z) : K13 x1 (x2 + r2) (x4 + 1) s6 := by
  have k0 : sR s6 s6 := ⟨sK.rf, hv⟩
  exact hK0  _ k0
theorem er_X4_enter_0_0 {r2 : Int32} {σ : zS} {s1 : zS} {K : Int32 → zS → Prop} (hv : sV s1) (h : ∀ r z, sR s1 z → K r z) : (((s1.1 1 4) = 0 →
      ∀ s3 : zS, s3 = zsI s1 1 3 ((s1.1 1 2) + r2) →
      zQi K (some (.int (σ.1 1 3))) s3) ∧ (¬ (s1.1 1 4) = 0 →
      zQi K (some (.int (σ.1 1 3))) s1)) := by
  have k0 : sR s1 s1 := ⟨sK.rf, hv⟩
  refine ⟨fun c1 => ?_, fun c1 => ?_⟩
  · intro s3 e2
    have k3 : sR s1 s3 := by rw [e2]; exact k0.i _ (by omega)
    exact h _ _ k3
  · exact h _ _ k0
theorem er_X4_outerName_0_0 {r2 : Int32} {σ : zS} {s1 : zS} {K : Int32 → zS → Prop} {QX : zS → Prop} (hv : sV s1) (h : ∀ r z, sR s1 z → K r z) : ((r2 ≤ (40 : Int32) →
      zQi K (some (.int r2)) s1) ∧ (¬ r2 ≤ (40 : Int32) →
      zCT zZC zmX4_fail [.ref 1, .int (4 : Int32), .int (σ.1 1 2)] s1 (zQv (fun s3 =>
        zQi K (some (.int r2)) s3)) QX)) := by
  have k0 : sR s1 s1 := ⟨sK.rf, hv⟩
  refine ⟨fun c1 => ?_, fun c1 => ?_⟩
  · exact h _ _ k0
  · refine sf_X4_fail k0.2 (fun s3 k20 => ?_)
    have k2 := k0.trans k20
    exact h _ _ k2
theorem er_X4_outerName_0_1 {r2 : Int32} {s3 : zS} {K : Int32 → zS → Prop} (hv : sV s3) (h : ∀ r z, sR s3 z → K r z) : zQi K (some (.int r2)) s3 := by
  have k0 : sR s3 s3 := ⟨sK.rf, hv⟩
  exact h _ _ k0
theorem er_X5_readLabels_0_0 {r2 : Int32} {σ : zS} {s1 : zS} {K31 : Int32 → Int32 → zS → Prop} {K : zS → Prop} {QX : zS → Prop} (hv : sV s1) (h : ∀ z, sR s1 z → K z) (hK0 : ∀ (z : zS), sR s1 z → K31 r2 (0 : Int32) z) : ((r2 ≤ (256 : Int32) →
      ∀ s3 : zS, s3 = zsI s1 6 1 (0 : Int32) →
      K31 r2 (0 : Int32) s3) ∧ (¬ r2 ≤ (256 : Int32) →
      zCT zZC zmX4_fail [.ref 1, .int (4 : Int32), .int (σ.1 1 2)] s1 (zQv (fun s4 =>
        ∀ s5 : zS, s5 = zsI s4 6 1 (0 : Int32) →
        K31 r2 (0 : Int32) s5)) QX)) := by
  have k0 : sR s1 s1 := ⟨sK.rf, hv⟩
  refine ⟨fun c1 => ?_, fun c1 => ?_⟩
  · intro s3 e2
    have k3 : sR s1 s3 := by rw [e2]; exact k0.i _ (by omega)
    exact hK0  _ k3
  · refine sf_X4_fail k0.2 (fun s4 k40 => ?_)
    have k4 := k0.trans k40
    intro s5 e5
    have k6 : sR s1 s5 := by rw [e5]; exact k4.i _ (by omega)
    exact hK0  _ k6
theorem er_X5_readLabels_0_1 {r2 : Int32} {s4 : zS} {K31 : Int32 → Int32 → zS → Prop} {K : zS → Prop} (hv : sV s4) (h : ∀ z, sR s4 z → K z) (hK0 : ∀ (z : zS), sR s4 z → K31 r2 (0 : Int32) z) : ∀ s5 : zS, s5 = zsI s4 6 1 (0 : Int32) →
        K31 r2 (0 : Int32) s5 := by
  have k0 : sR s4 s4 := ⟨sK.rf, hv⟩
  intro s5 e1
  have k2 : sR s4 s5 := by rw [e1]; exact k0.i _ (by omega)
  exact hK0  _ k2
theorem er_X5_readLabels_31_0 {r2 : Int64} {x3 : Int32} {x4 : Int32} {s1 : zS} {K31 : Int32 → Int32 → zS → Prop} {K : zS → Prop} (hv : sV s1) (h : ∀ z, sR s1 z → K z) (hK0 : ∀ (z : zS), sR s1 z → K31 x3 (x4 + 1) z) (hI0 : vp_in x4 257) : vp_in x4 257 ∧ ∀ s3 : zS, s3 = zsL s1 26 x4.toNatClampNeg r2 →
          ∀ s4 : zS, s4 = zsI s3 6 1 ((s3.1 6 1) + (1 : Int32)) →
          K31 x3 (x4 + 1) s4 := by
  have k0 : sR s1 s1 := ⟨sK.rf, hv⟩
  refine ⟨hI0, ?_⟩
  intro s3 e1
  have k2 : sR s1 s3 := by rw [e1]; exact k0.l _ (by omega)
  intro s4 e3
  have k4 : sR s1 s4 := by rw [e3]; exact k2.i _ (by omega)
  exact hK0  _ k4
theorem er_X6_readData_0_0 {r2 : Int32} {σ : zS} {s1 : zS} {K : zS → Prop} {QX : zS → Prop} (hv : sV s1) (h : ∀ z, sR s1 z → K z) : ((r2 = 0 →
      (((s1.1 2 11) = 0 →
        zCT zZC zmX2_noteWrong [.ref 2, .int (13 : Int32), .int (σ.1 1 2)] s1 (zQv (fun s3 =>
          zCT zZC zmX6_readConstant [.ref 3, .int (14 : Int32), .int (127 : Int32)] s3 (zQv (fun s4 =>
            zCT zZC zmX4_length [.ref 1] s4 (zQi (fun r6 s5 =>
              ∀ s7 : zS, s7 = zsI s5 1 2 ((s5.1 1 2) + r6) →
              zQv K none s7)) QX)) QX)) QX) ∧ (¬ (s1.1 2 11) = 0 →
        zCT zZC zmX6_readConstant [.ref 3, .int (14 : Int32), .int (127 : Int32)] s1 (zQv (fun s8 =>
          zCT zZC zmX4_length [.ref 1] s8 (zQi (fun r10 s9 =>
            ∀ s11 : zS, s11 = zsI s9 1 2 ((s9.1 1 2) + r10) →
            zQv K none s11)) QX)) QX))) ∧ (¬ r2 = 0 →
      zCT zZC zmX4_length [.ref 1] s1 (zQi (fun r13 s12 =>
        ∀ s14 : zS, s14 = zsI s12 1 2 ((s12.1 1 2) + r13) →
        zQv K none s14)) QX)) := by
  have k0 : sR s1 s1 := ⟨sK.rf, hv⟩
  refine ⟨fun c1 => ?_, fun c1 => ?_⟩
  · refine ⟨fun c2 => ?_, fun c2 => ?_⟩
    · refine sf_X2_noteWrong k0.2 (fun s3 k30 => ?_)
      have k3 := k0.trans k30
      refine sf_X6_readConstant k3.2 (fun s4 k40 => ?_)
      have k4 := k3.trans k40
      refine sf_X4_length k4.2 (fun r6 s5 k50 => ?_)
      have k5 := k4.trans k50
      intro s7 e6
      have k7 : sR s1 s7 := by rw [e6]; exact k5.i _ (by omega)
      exact h _ k7
    · refine sf_X6_readConstant k0.2 (fun s8 k80 => ?_)
      have k8 := k0.trans k80
      refine sf_X4_length k8.2 (fun r10 s9 k90 => ?_)
      have k9 := k8.trans k90
      intro s11 e10
      have k11 : sR s1 s11 := by rw [e10]; exact k9.i _ (by omega)
      exact h _ k11
  · refine sf_X4_length k0.2 (fun r13 s12 k120 => ?_)
    have k12 := k0.trans k120
    intro s14 e13
    have k14 : sR s1 s14 := by rw [e13]; exact k12.i _ (by omega)
    exact h _ k14
theorem er_X6_readData_0_1 {s3 : zS} {K : zS → Prop} {QX : zS → Prop} (hv : sV s3) (h : ∀ z, sR s3 z → K z) : zCT zZC zmX6_readConstant [.ref 3, .int (14 : Int32), .int (127 : Int32)] s3 (zQv (fun s4 =>
            zCT zZC zmX4_length [.ref 1] s4 (zQi (fun r6 s5 =>
              ∀ s7 : zS, s7 = zsI s5 1 2 ((s5.1 1 2) + r6) →
              zQv K none s7)) QX)) QX := by
  have k0 : sR s3 s3 := ⟨sK.rf, hv⟩
  refine sf_X6_readConstant k0.2 (fun s4 k10 => ?_)
  have k1 := k0.trans k10
  refine sf_X4_length k1.2 (fun r6 s5 k20 => ?_)
  have k2 := k1.trans k20
  intro s7 e3
  have k4 : sR s3 s7 := by rw [e3]; exact k2.i _ (by omega)
  exact h _ k4
theorem er_X6_readData_0_2 {s4 : zS} {K : zS → Prop} {QX : zS → Prop} (hv : sV s4) (h : ∀ z, sR s4 z → K z) : zCT zZC zmX4_length [.ref 1] s4 (zQi (fun r6 s5 =>
              ∀ s7 : zS, s7 = zsI s5 1 2 ((s5.1 1 2) + r6) →
              zQv K none s7)) QX := by
  have k0 : sR s4 s4 := ⟨sK.rf, hv⟩
  refine sf_X4_length k0.2 (fun r6 s5 k10 => ?_)
  have k1 := k0.trans k10
  intro s7 e2
  have k3 : sR s4 s7 := by rw [e2]; exact k1.i _ (by omega)
  exact h _ k3
theorem er_X6_readData_0_3 {r6 : Int32} {s5 : zS} {K : zS → Prop} (hv : sV s5) (h : ∀ z, sR s5 z → K z) : ∀ s7 : zS, s7 = zsI s5 1 2 ((s5.1 1 2) + r6) →
              zQv K none s7 := by
  have k0 : sR s5 s5 := ⟨sK.rf, hv⟩
  intro s7 e1
  have k2 : sR s5 s7 := by rw [e1]; exact k0.i _ (by omega)
  exact h _ k2
theorem er_X6_readData_0_4 {s8 : zS} {K : zS → Prop} {QX : zS → Prop} (hv : sV s8) (h : ∀ z, sR s8 z → K z) : zCT zZC zmX4_length [.ref 1] s8 (zQi (fun r10 s9 =>
            ∀ s11 : zS, s11 = zsI s9 1 2 ((s9.1 1 2) + r10) →
            zQv K none s11)) QX := by
  have k0 : sR s8 s8 := ⟨sK.rf, hv⟩
  refine sf_X4_length k0.2 (fun r10 s9 k10 => ?_)
  have k1 := k0.trans k10
  intro s11 e2
  have k3 : sR s8 s11 := by rw [e2]; exact k1.i _ (by omega)
  exact h _ k3
theorem er_X6_readData_0_5 {r10 : Int32} {s9 : zS} {K : zS → Prop} (hv : sV s9) (h : ∀ z, sR s9 z → K z) : ∀ s11 : zS, s11 = zsI s9 1 2 ((s9.1 1 2) + r10) →
            zQv K none s11 := by
  have k0 : sR s9 s9 := ⟨sK.rf, hv⟩
  intro s11 e1
  have k2 : sR s9 s11 := by rw [e1]; exact k0.i _ (by omega)
  exact h _ k2
theorem er_X6_readData_0_6 {r13 : Int32} {s12 : zS} {K : zS → Prop} (hv : sV s12) (h : ∀ z, sR s12 z → K z) : ∀ s14 : zS, s14 = zsI s12 1 2 ((s12.1 1 2) + r13) →
        zQv K none s14 := by
  have k0 : sR s12 s12 := ⟨sK.rf, hv⟩
  intro s14 e1
  have k2 : sR s12 s14 := by rw [e1]; exact k0.i _ (by omega)
  exact h _ k2
theorem er_X6_readGlobal_0_0 {r2 : Int32} {s1 : zS} {K : zS → Prop} {QX : zS → Prop} (hv : sV s1) (h : ∀ z, sR s1 z → K z) : zCT zZC zmX4_octetWithin [.ref 1, .int (0 : Int32), .int (1 : Int32)] s1 (zQi (fun r4 s3 =>
      ((r4 = (1 : Int32) →
        zCT zZC zmX6_readConstant [.ref 3, .int (6 : Int32), .int r2] s3 (zQv (fun s5 =>
          zCT zZC zmX2_addGlobal [.ref 2, .int r2, .int (1 : Int32)] s5 (zQv (fun s6 =>
            zQv K none s6)) QX)) QX) ∧ (¬ r4 = (1 : Int32) →
        zCT zZC zmX6_readConstant [.ref 3, .int (6 : Int32), .int r2] s3 (zQv (fun s7 =>
          zCT zZC zmX2_addGlobal [.ref 2, .int r2, .int (0 : Int32)] s7 (zQv (fun s8 =>
            zQv K none s8)) QX)) QX)))) QX := by
  have k0 : sR s1 s1 := ⟨sK.rf, hv⟩
  refine sf_X4_octetWithin k0.2 (fun r4 s3 k10 => ?_)
  have k1 := k0.trans k10
  refine ⟨fun c2 => ?_, fun c2 => ?_⟩
  · refine sf_X6_readConstant k1.2 (fun s5 k30 => ?_)
    have k3 := k1.trans k30
    refine sf_X2_addGlobal k3.2 (fun s6 k40 => ?_)
    have k4 := k3.trans k40
    exact h _ k4
  · refine sf_X6_readConstant k1.2 (fun s7 k50 => ?_)
    have k5 := k1.trans k50
    refine sf_X2_addGlobal k5.2 (fun s8 k60 => ?_)
    have k6 := k5.trans k60
    exact h _ k6
theorem er_X6_readGlobal_0_1 {r2 : Int32} {r4 : Int32} {s3 : zS} {K : zS → Prop} {QX : zS → Prop} (hv : sV s3) (h : ∀ z, sR s3 z → K z) : ((r4 = (1 : Int32) →
        zCT zZC zmX6_readConstant [.ref 3, .int (6 : Int32), .int r2] s3 (zQv (fun s5 =>
          zCT zZC zmX2_addGlobal [.ref 2, .int r2, .int (1 : Int32)] s5 (zQv (fun s6 =>
            zQv K none s6)) QX)) QX) ∧ (¬ r4 = (1 : Int32) →
        zCT zZC zmX6_readConstant [.ref 3, .int (6 : Int32), .int r2] s3 (zQv (fun s7 =>
          zCT zZC zmX2_addGlobal [.ref 2, .int r2, .int (0 : Int32)] s7 (zQv (fun s8 =>
            zQv K none s8)) QX)) QX)) := by
  have k0 : sR s3 s3 := ⟨sK.rf, hv⟩
  refine ⟨fun c1 => ?_, fun c1 => ?_⟩
  · refine sf_X6_readConstant k0.2 (fun s5 k20 => ?_)
    have k2 := k0.trans k20
    refine sf_X2_addGlobal k2.2 (fun s6 k30 => ?_)
    have k3 := k2.trans k30
    exact h _ k3
  · refine sf_X6_readConstant k0.2 (fun s7 k40 => ?_)
    have k4 := k0.trans k40
    refine sf_X2_addGlobal k4.2 (fun s8 k50 => ?_)
    have k5 := k4.trans k50
    exact h _ k5
theorem er_X6_readGlobal_0_2 {r2 : Int32} {s5 : zS} {K : zS → Prop} {QX : zS → Prop} (hv : sV s5) (h : ∀ z, sR s5 z → K z) : zCT zZC zmX2_addGlobal [.ref 2, .int r2, .int (1 : Int32)] s5 (zQv (fun s6 =>
            zQv K none s6)) QX := by
  have k0 : sR s5 s5 := ⟨sK.rf, hv⟩
  refine sf_X2_addGlobal k0.2 (fun s6 k10 => ?_)
  have k1 := k0.trans k10
  exact h _ k1
theorem er_X6_readGlobal_0_3 {s6 : zS} {K : zS → Prop} (hv : sV s6) (h : ∀ z, sR s6 z → K z) : zQv K none s6 := by
  have k0 : sR s6 s6 := ⟨sK.rf, hv⟩
  exact h _ k0
theorem er_X6_readGlobal_0_4 {r2 : Int32} {s7 : zS} {K : zS → Prop} {QX : zS → Prop} (hv : sV s7) (h : ∀ z, sR s7 z → K z) : zCT zZC zmX2_addGlobal [.ref 2, .int r2, .int (0 : Int32)] s7 (zQv (fun s8 =>
            zQv K none s8)) QX := by
  have k0 : sR s7 s7 := ⟨sK.rf, hv⟩
  refine sf_X2_addGlobal k0.2 (fun s8 k10 => ?_)
  have k1 := k0.trans k10
  exact h _ k1
theorem er_X6_readGlobal_0_5 {s8 : zS} {K : zS → Prop} (hv : sV s8) (h : ∀ z, sR s8 z → K z) : zQv K none s8 := by
  have k0 : sR s8 s8 := ⟨sK.rf, hv⟩
  exact h _ k0
theorem er_X6_readMemory_0_0 {s1 : zS} {K : zS → Prop} {QX : zS → Prop} (hv : sV s1) (h : ∀ z, sR s1 z → K z) : zCT zZC zmX6_readLimits [.ref 3, .int (5 : Int32), .int (1 : Int32)] s1 (zQv (fun s2 =>
      zQv K none s2)) QX := by
  have k0 : sR s1 s1 := ⟨sK.rf, hv⟩
  refine sf_X6_readLimits k0.2 (fun s2 k10 => ?_)
  have k1 := k0.trans k10
  exact h _ k1
theorem er_X6_readMemory_0_1 {s2 : zS} {K : zS → Prop} (hv : sV s2) (h : ∀ z, sR s2 z → K z) : zQv K none s2 := by
  have k0 : sR s2 s2 := ⟨sK.rf, hv⟩
  exact h _ k0
theorem er_X6_readRowOfFunctions_0_0 {r2 : Int32} {σ : zS} {s1 : zS} {K34 : Int32 → Int32 → zS → Prop} {K : zS → Prop} {QX : zS → Prop} (hv : sV s1) (h : ∀ z, sR s1 z → K z) (hK0 : ∀ (z : zS), sR s1 z → K34 r2 (0 : Int32) z) : ((r2 ≤ (256 : Int32) →
      K34 r2 (0 : Int32) s1) ∧ (¬ r2 ≤ (256 : Int32) →
      zCT zZC zmX4_fail [.ref 1, .int (4 : Int32), .int (σ.1 1 2)] s1 (zQv (fun s3 =>
        K34 r2 (0 : Int32) s3)) QX)) := by
  have k0 : sR s1 s1 := ⟨sK.rf, hv⟩
  refine ⟨fun c1 => ?_, fun c1 => ?_⟩
  · exact hK0  _ k0
  · refine sf_X4_fail k0.2 (fun s3 k20 => ?_)
    have k2 := k0.trans k20
    exact hK0  _ k2
theorem er_X6_readRowOfFunctions_0_1 {r2 : Int32} {s3 : zS} {K34 : Int32 → Int32 → zS → Prop} {K : zS → Prop} (hv : sV s3) (h : ∀ z, sR s3 z → K z) (hK0 : ∀ (z : zS), sR s3 z → K34 r2 (0 : Int32) z) : K34 r2 (0 : Int32) s3 := by
  have k0 : sR s3 s3 := ⟨sK.rf, hv⟩
  exact hK0  _ k0
theorem er_X6_readRowOfFunctions_34_0 {r2 : Int64} {x2 : Int32} {x3 : Int32} {σ : zS} {s1 : zS} {K34 : Int32 → Int32 → zS → Prop} {K : zS → Prop} {QX : zS → Prop} (hv : sV s1) (h : ∀ z, sR s1 z → K z) (hK0 : ∀ (z : zS), sR s1 z → K34 x2 (x3 + 1) z) : ((r2 < ((s1.1 2 8).toInt64) →
          K34 x2 (x3 + 1) s1) ∧ (¬ r2 < ((s1.1 2 8).toInt64) →
          zCT zZC zmX2_noteWrong [.ref 2, .int (12 : Int32), .int (σ.1 1 2)] s1 (zQv (fun s3 =>
            K34 x2 (x3 + 1) s3)) QX)) := by
  have k0 : sR s1 s1 := ⟨sK.rf, hv⟩
  refine ⟨fun c1 => ?_, fun c1 => ?_⟩
  · exact hK0  _ k0
  · refine sf_X2_noteWrong k0.2 (fun s3 k20 => ?_)
    have k2 := k0.trans k20
    exact hK0  _ k2
theorem er_X6_readRowOfFunctions_34_1 {x2 : Int32} {x3 : Int32} {s3 : zS} {K34 : Int32 → Int32 → zS → Prop} {K : zS → Prop} (hv : sV s3) (h : ∀ z, sR s3 z → K z) (hK0 : ∀ (z : zS), sR s3 z → K34 x2 (x3 + 1) z) : K34 x2 (x3 + 1) s3 := by
  have k0 : sR s3 s3 := ⟨sK.rf, hv⟩
  exact hK0  _ k0
theorem er_X6_readSignature_0_0 {s1 : zS} {K76 : Int32 → Int32 → Int32 → zS → Prop} {K : zS → Prop} {QX : zS → Prop} (hv : sV s1) (h : ∀ z, sR s1 z → K z) (hK0 : ∀ (q0 : Int32) (z : zS), sR s1 z → K76 (s1.1 18 (1 : Int32).toNatClampNeg) q0 (0 : Int32) z) : vp_in (1 : Int32) 13 ∧
    (((s1.1 1 4) = 0 →
      (((s1.1 18 (1 : Int32).toNatClampNeg) < (nI 64) →
        vp_in (s1.1 18 (1 : Int32).toNatClampNeg) 64 ∧ ∀ s3 : zS, s3 = zsI s1 11 (s1.1 18 (1 : Int32).toNatClampNeg).toNatClampNeg (0 : Int32) →
        vp_in (s1.1 18 (1 : Int32).toNatClampNeg) 64 ∧ ∀ s4 : zS, s4 = zsI s3 13 (s1.1 18 (1 : Int32).toNatClampNeg).toNatClampNeg (64 : Int32) →
        zCT zZC zmX4_rowLength [.ref 1] s4 (zQi (fun r6 s5 =>
          K76 (s1.1 18 (1 : Int32).toNatClampNeg) r6 (0 : Int32) s5)) QX) ∧ (¬ (s1.1 18 (1 : Int32).toNatClampNeg) < (nI 64) →
        zQv K none s1))) ∧ (¬ (s1.1 1 4) = 0 →
      zQv K none s1)) := by
  have k0 : sR s1 s1 := ⟨sK.rf, hv⟩
  refine ⟨(by unfold vp_in; decide), ?_⟩
  refine ⟨fun c1 => ?_, fun c1 => ?_⟩
  · refine ⟨fun c2 => ?_, fun c2 => ?_⟩
    · refine ⟨(vp_lh k0.2.2.2.2.2.1 (vh_2 c2) (by decide)), ?_⟩
      intro s3 e3
      have k4 : sR s1 s3 := by rw [e3]; exact k0.i _ (by omega)
      refine ⟨(vp_lh k0.2.2.2.2.2.1 (vh_2 c2) (by decide)), ?_⟩
      intro s4 e5
      have k6 : sR s1 s4 := by rw [e5]; exact k4.i _ (by omega)
      refine sf_X4_rowLength k6.2 (fun r6 s5 p8 k70 => ?_)
      have k7 := k6.trans k70
      exact hK0 r6 _ k7
    · exact h _ k0
  · exact h _ k0
theorem er_X6_readSignature_0_1 {r6 : Int32} {s1 : zS} {s5 : zS} {K76 : Int32 → Int32 → Int32 → zS → Prop} {K : zS → Prop} (hv : sV s5) (h : ∀ z, sR s5 z → K z) (hK0 : ∀ (z : zS), sR s5 z → K76 (s1.1 18 (1 : Int32).toNatClampNeg) r6 (0 : Int32) z) : K76 (s1.1 18 (1 : Int32).toNatClampNeg) r6 (0 : Int32) s5 := by
  have k0 : sR s5 s5 := ⟨sK.rf, hv⟩
  exact hK0  _ k0
theorem er_X6_readSignature_76_0 {r2 : Int32} {x1 : Int32} {s1 : zS} {K130 : Int32 → Int32 → Int32 → zS → Prop} {K : zS → Prop} (hv : sV s1) (h : ∀ z, sR s1 z → K z) (hK0 : ∀ (z : zS), sR s1 z → K130 x1 r2 (0 : Int32) z) : K130 x1 r2 (0 : Int32) s1 := by
  have k0 : sR s1 s1 := ⟨sK.rf, hv⟩
  exact hK0  _ k0
theorem er_X6_readSignature_76_1 {x1 : Int32} {x2 : Int32} {x3 : Int32} {s3 : zS} {K76 : Int32 → Int32 → Int32 → zS → Prop} {K : zS → Prop} {QX : zS → Prop} (hv : sV s3) (h : ∀ z, sR s3 z → K z) (hK0 : ∀ (z : zS), sR s3 z → K76 x1 x2 (x3 + 1) z) (hI0 : 0 ≤ x3.toInt) : zCT zZC zmX4_type [.ref 1] s3 (zQi (fun r5 s4 =>
          zCT zZC zmX2_addParameter [.ref 2, .int x3, .int r5] s4 (zQv (fun s6 =>
            K76 x1 x2 (x3 + 1) s6)) QX)) QX := by
  have k0 : sR s3 s3 := ⟨sK.rf, hv⟩
  refine sf_X4_type k0.2 (fun r5 s4 k10 => ?_)
  have k1 := k0.trans k10
  refine sf_X2_addParameter k1.2 hI0 (fun s6 k20 => ?_)
  have k2 := k1.trans k20
  exact hK0  _ k2
theorem er_X6_readSignature_76_2 {r5 : Int32} {x1 : Int32} {x2 : Int32} {x3 : Int32} {s4 : zS} {K76 : Int32 → Int32 → Int32 → zS → Prop} {K : zS → Prop} {QX : zS → Prop} (hv : sV s4) (h : ∀ z, sR s4 z → K z) (hK0 : ∀ (z : zS), sR s4 z → K76 x1 x2 (x3 + 1) z) (hI0 : 0 ≤ x3.toInt) : zCT zZC zmX2_addParameter [.ref 2, .int x3, .int r5] s4 (zQv (fun s6 =>
            K76 x1 x2 (x3 + 1) s6)) QX := by
  have k0 : sR s4 s4 := ⟨sK.rf, hv⟩
  refine sf_X2_addParameter k0.2 hI0 (fun s6 k10 => ?_)
  have k1 := k0.trans k10
  exact hK0  _ k1
theorem er_X6_readSignature_76_3 {x1 : Int32} {x2 : Int32} {x3 : Int32} {s6 : zS} {K76 : Int32 → Int32 → Int32 → zS → Prop} {K : zS → Prop} (hv : sV s6) (h : ∀ z, sR s6 z → K z) (hK0 : ∀ (z : zS), sR s6 z → K76 x1 x2 (x3 + 1) z) : K76 x1 x2 (x3 + 1) s6 := by
  have k0 : sR s6 s6 := ⟨sK.rf, hv⟩
  exact hK0  _ k0
theorem er_X6_readSignature_76_4 {r8 : Int32} {x1 : Int32} {s7 : zS} {K130 : Int32 → Int32 → Int32 → zS → Prop} {K : zS → Prop} (hv : sV s7) (h : ∀ z, sR s7 z → K z) (hK0 : ∀ (z : zS), sR s7 z → K130 x1 r8 (0 : Int32) z) : K130 x1 r8 (0 : Int32) s7 := by
  have k0 : sR s7 s7 := ⟨sK.rf, hv⟩
  exact hK0  _ k0
theorem er_X6_readSignature_130_0 {x1 : Int32} {x3 : Int32} {x4 : Int32} {s1 : zS} {K130 : Int32 → Int32 → Int32 → zS → Prop} {K : zS → Prop} {QX : zS → Prop} (hv : sV s1) (h : ∀ z, sR s1 z → K z) (hK0 : ∀ (z : zS), sR s1 z → K130 x1 x3 (x4 + 1) z) (hI0 : vp_in x1 64) : zCT zZC zmX4_type [.ref 1] s1 (zQi (fun r3 s2 =>
          vp_in x1 64 ∧ ∀ s4 : zS, s4 = zsI s2 13 x1.toNatClampNeg r3 →
          K130 x1 x3 (x4 + 1) s4)) QX := by
  have k0 : sR s1 s1 := ⟨sK.rf, hv⟩
  refine sf_X4_type k0.2 (fun r3 s2 k10 => ?_)
  have k1 := k0.trans k10
  refine ⟨hI0, ?_⟩
  intro s4 e2
  have k3 : sR s1 s4 := by rw [e2]; exact k1.i _ (by omega)
  exact hK0  _ k3
theorem er_X6_readSignature_130_1 {r3 : Int32} {x1 : Int32} {x3 : Int32} {x4 : Int32} {s2 : zS} {K130 : Int32 → Int32 → Int32 → zS → Prop} {K : zS → Prop} (hv : sV s2) (h : ∀ z, sR s2 z → K z) (hK0 : ∀ (z : zS), sR s2 z → K130 x1 x3 (x4 + 1) z) (hI0 : vp_in x1 64) : vp_in x1 64 ∧ ∀ s4 : zS, s4 = zsI s2 13 x1.toNatClampNeg r3 →
          K130 x1 x3 (x4 + 1) s4 := by
  have k0 : sR s2 s2 := ⟨sK.rf, hv⟩
  refine ⟨hI0, ?_⟩
  intro s4 e1
  have k2 : sR s2 s4 := by rw [e1]; exact k0.i _ (by omega)
  exact hK0  _ k2
theorem er_X6_readTable_0_0 {s1 : zS} {K : zS → Prop} {QX : zS → Prop} (hv : sV s1) (h : ∀ z, sR s1 z → K z) : zCT zZC zmX4_octetWithin [.ref 1, .int (112 : Int32), .int (112 : Int32)] s1 (zQi (fun r3 s2 =>
      zCT zZC zmX6_readLimits [.ref 3, .int (3 : Int32), .int (0 : Int32)] s2 (zQv (fun s4 =>
        zQv K none s4)) QX)) QX := by
  have k0 : sR s1 s1 := ⟨sK.rf, hv⟩
  refine sf_X4_octetWithin k0.2 (fun r3 s2 k10 => ?_)
  have k1 := k0.trans k10
  refine sf_X6_readLimits k1.2 (fun s4 k20 => ?_)
  have k2 := k1.trans k20
  exact h _ k2
theorem er_X6_readTable_0_1 {s2 : zS} {K : zS → Prop} {QX : zS → Prop} (hv : sV s2) (h : ∀ z, sR s2 z → K z) : zCT zZC zmX6_readLimits [.ref 3, .int (3 : Int32), .int (0 : Int32)] s2 (zQv (fun s4 =>
        zQv K none s4)) QX := by
  have k0 : sR s2 s2 := ⟨sK.rf, hv⟩
  refine sf_X6_readLimits k0.2 (fun s4 k10 => ?_)
  have k1 := k0.trans k10
  exact h _ k1
theorem er_X6_readTable_0_2 {s4 : zS} {K : zS → Prop} (hv : sV s4) (h : ∀ z, sR s4 z → K z) : zQv K none s4 := by
  have k0 : sR s4 s4 := ⟨sK.rf, hv⟩
  exact h _ k0
theorem er_X1_readInstruction_0_0 {s1 : zS} {K : zS → Prop} {QX : zS → Prop} (hv : sV s1) (h : ∀ z, sR s1 z → K z) : zCT zZC zmX1_lookWhereItStands [.ref 4] s1 (zQv (fun s2 =>
      (((s2.1 6 3) = (14 : Int32) →
        zCT zZC zmX5_readLabels [.ref 6, .ref 1] s2 (zQv (fun s3 =>
          (((s3.1 1 4) = 0 →
            zCT zZC zmX0_addCode [.ref 8, .int (s3.1 6 3)] s3 (zQv (fun s4 =>
              (((s4.1 4 6) = 0 →
                zCT zZC zmX1_turnFrames [.ref 4] s4 (zQv (fun s5 =>
                  zQv K none s5)) QX) ∧ (¬ (s4.1 4 6) = 0 →
                zCT zZC zmX7_isRight [.ref 7, .ref 6] s4 (zQi (fun r7 s6 =>
                  ((r7 = 0 →
                    zCT zZC zmX2_noteWrong [.ref 2, .int (15 : Int32), .int (s6.1 6 2)] s6 (zQv (fun s8 =>
                      ((0 : Int32) = 0 ∨ (0 : Int32) = 1) ∧ ∀ s9 : zS, s9 = zsI s8 4 6 (0 : Int32) →
                      zCT zZC zmX1_turnFrames [.ref 4] s9 (zQv (fun s10 =>
                        zQv K none s10)) QX)) QX) ∧ (¬ r7 = 0 →
                    zCT zZC zmX1_turnFrames [.ref 4] s6 (zQv (fun s11 =>
                      zQv K none s11)) QX)))) QX)))) QX) ∧ (¬ (s3.1 1 4) = 0 →
            zQv K none s3)))) QX) ∧ (¬ (s2.1 6 3) = (14 : Int32) →
        zCT zZC zmX5_readArguments [.ref 6, .ref 1] s2 (zQv (fun s12 =>
          (((s12.1 1 4) = 0 →
            zCT zZC zmX0_addCode [.ref 8, .int (s12.1 6 3)] s12 (zQv (fun s13 =>
              (((s13.1 4 6) = 0 →
                zCT zZC zmX1_turnFrames [.ref 4] s13 (zQv (fun s14 =>
                  zQv K none s14)) QX) ∧ (¬ (s13.1 4 6) = 0 →
                zCT zZC zmX7_isRight [.ref 7, .ref 6] s13 (zQi (fun r16 s15 =>
                  ((r16 = 0 →
                    zCT zZC zmX2_noteWrong [.ref 2, .int (15 : Int32), .int (s15.1 6 2)] s15 (zQv (fun s17 =>
                      ((0 : Int32) = 0 ∨ (0 : Int32) = 1) ∧ ∀ s18 : zS, s18 = zsI s17 4 6 (0 : Int32) →
                      zCT zZC zmX1_turnFrames [.ref 4] s18 (zQv (fun s19 =>
                        zQv K none s19)) QX)) QX) ∧ (¬ r16 = 0 →
                    zCT zZC zmX1_turnFrames [.ref 4] s15 (zQv (fun s20 =>
                      zQv K none s20)) QX)))) QX)))) QX) ∧ (¬ (s12.1 1 4) = 0 →
            zQv K none s12)))) QX)))) QX := by
  have k0 : sR s1 s1 := ⟨sK.rf, hv⟩
  refine sf_X1_lookWhereItStands k0.2 (fun s2 k10 => ?_)
  have k1 := k0.trans k10
  refine ⟨fun c2 => ?_, fun c2 => ?_⟩
  · refine sf_X5_readLabels k1.2 (fun s3 k30 => ?_)
    have k3 := k1.trans k30
    refine ⟨fun c4 => ?_, fun c4 => ?_⟩
    · refine sf_X0_addCode k3.2 (fun s4 k50 => ?_)
      have k5 := k3.trans k50
      refine ⟨fun c6 => ?_, fun c6 => ?_⟩
      · refine sf_X1_turnFrames k5.2 (fun s5 k70 => ?_)
        have k7 := k5.trans k70
        exact h _ k7
      · refine sf_X7_isRight k5.2 (fun r7 s6 b9 k80 => ?_)
        have k8 := k5.trans k80
        refine ⟨fun c10 => ?_, fun c10 => ?_⟩
        · refine sf_X2_noteWrong k8.2 (fun s8 k110 => ?_)
          have k11 := k8.trans k110
          refine ⟨Or.inl rfl, ?_⟩
          intro s9 e12
          have k13 : sR s1 s9 := by rw [e12]; exact k11.i _ (by omega)
          refine sf_X1_turnFrames k13.2 (fun s10 k140 => ?_)
          have k14 := k13.trans k140
          exact h _ k14
        · refine sf_X1_turnFrames k8.2 (fun s11 k150 => ?_)
          have k15 := k8.trans k150
          exact h _ k15
    · exact h _ k3
  · refine sf_X5_readArguments k1.2 (fun s12 k160 => ?_)
    have k16 := k1.trans k160
    refine ⟨fun c17 => ?_, fun c17 => ?_⟩
    · refine sf_X0_addCode k16.2 (fun s13 k180 => ?_)
      have k18 := k16.trans k180
      refine ⟨fun c19 => ?_, fun c19 => ?_⟩
      · refine sf_X1_turnFrames k18.2 (fun s14 k200 => ?_)
        have k20 := k18.trans k200
        exact h _ k20
      · refine sf_X7_isRight k18.2 (fun r16 s15 b22 k210 => ?_)
        have k21 := k18.trans k210
        refine ⟨fun c23 => ?_, fun c23 => ?_⟩
        · refine sf_X2_noteWrong k21.2 (fun s17 k240 => ?_)
          have k24 := k21.trans k240
          refine ⟨Or.inl rfl, ?_⟩
          intro s18 e25
          have k26 : sR s1 s18 := by rw [e25]; exact k24.i _ (by omega)
          refine sf_X1_turnFrames k26.2 (fun s19 k270 => ?_)
          have k27 := k26.trans k270
          exact h _ k27
        · refine sf_X1_turnFrames k21.2 (fun s20 k280 => ?_)
          have k28 := k21.trans k280
          exact h _ k28
    · exact h _ k16
theorem er_X1_readInstruction_0_1 {s2 : zS} {K : zS → Prop} {QX : zS → Prop} (hv : sV s2) (h : ∀ z, sR s2 z → K z) : (((s2.1 6 3) = (14 : Int32) →
        zCT zZC zmX5_readLabels [.ref 6, .ref 1] s2 (zQv (fun s3 =>
          (((s3.1 1 4) = 0 →
            zCT zZC zmX0_addCode [.ref 8, .int (s3.1 6 3)] s3 (zQv (fun s4 =>
              (((s4.1 4 6) = 0 →
                zCT zZC zmX1_turnFrames [.ref 4] s4 (zQv (fun s5 =>
                  zQv K none s5)) QX) ∧ (¬ (s4.1 4 6) = 0 →
                zCT zZC zmX7_isRight [.ref 7, .ref 6] s4 (zQi (fun r7 s6 =>
                  ((r7 = 0 →
                    zCT zZC zmX2_noteWrong [.ref 2, .int (15 : Int32), .int (s6.1 6 2)] s6 (zQv (fun s8 =>
                      ((0 : Int32) = 0 ∨ (0 : Int32) = 1) ∧ ∀ s9 : zS, s9 = zsI s8 4 6 (0 : Int32) →
                      zCT zZC zmX1_turnFrames [.ref 4] s9 (zQv (fun s10 =>
                        zQv K none s10)) QX)) QX) ∧ (¬ r7 = 0 →
                    zCT zZC zmX1_turnFrames [.ref 4] s6 (zQv (fun s11 =>
                      zQv K none s11)) QX)))) QX)))) QX) ∧ (¬ (s3.1 1 4) = 0 →
            zQv K none s3)))) QX) ∧ (¬ (s2.1 6 3) = (14 : Int32) →
        zCT zZC zmX5_readArguments [.ref 6, .ref 1] s2 (zQv (fun s12 =>
          (((s12.1 1 4) = 0 →
            zCT zZC zmX0_addCode [.ref 8, .int (s12.1 6 3)] s12 (zQv (fun s13 =>
              (((s13.1 4 6) = 0 →
                zCT zZC zmX1_turnFrames [.ref 4] s13 (zQv (fun s14 =>
                  zQv K none s14)) QX) ∧ (¬ (s13.1 4 6) = 0 →
                zCT zZC zmX7_isRight [.ref 7, .ref 6] s13 (zQi (fun r16 s15 =>
                  ((r16 = 0 →
                    zCT zZC zmX2_noteWrong [.ref 2, .int (15 : Int32), .int (s15.1 6 2)] s15 (zQv (fun s17 =>
                      ((0 : Int32) = 0 ∨ (0 : Int32) = 1) ∧ ∀ s18 : zS, s18 = zsI s17 4 6 (0 : Int32) →
                      zCT zZC zmX1_turnFrames [.ref 4] s18 (zQv (fun s19 =>
                        zQv K none s19)) QX)) QX) ∧ (¬ r16 = 0 →
                    zCT zZC zmX1_turnFrames [.ref 4] s15 (zQv (fun s20 =>
                      zQv K none s20)) QX)))) QX)))) QX) ∧ (¬ (s12.1 1 4) = 0 →
            zQv K none s12)))) QX)) := by
  have k0 : sR s2 s2 := ⟨sK.rf, hv⟩
  refine ⟨fun c1 => ?_, fun c1 => ?_⟩
  · refine sf_X5_readLabels k0.2 (fun s3 k20 => ?_)
    have k2 := k0.trans k20
    refine ⟨fun c3 => ?_, fun c3 => ?_⟩
    · refine sf_X0_addCode k2.2 (fun s4 k40 => ?_)
      have k4 := k2.trans k40
      refine ⟨fun c5 => ?_, fun c5 => ?_⟩
      · refine sf_X1_turnFrames k4.2 (fun s5 k60 => ?_)
        have k6 := k4.trans k60
        exact h _ k6
      · refine sf_X7_isRight k4.2 (fun r7 s6 b8 k70 => ?_)
        have k7 := k4.trans k70
        refine ⟨fun c9 => ?_, fun c9 => ?_⟩
        · refine sf_X2_noteWrong k7.2 (fun s8 k100 => ?_)
          have k10 := k7.trans k100
          refine ⟨Or.inl rfl, ?_⟩
          intro s9 e11
          have k12 : sR s2 s9 := by rw [e11]; exact k10.i _ (by omega)
          refine sf_X1_turnFrames k12.2 (fun s10 k130 => ?_)
          have k13 := k12.trans k130
          exact h _ k13
        · refine sf_X1_turnFrames k7.2 (fun s11 k140 => ?_)
          have k14 := k7.trans k140
          exact h _ k14
    · exact h _ k2
  · refine sf_X5_readArguments k0.2 (fun s12 k150 => ?_)
    have k15 := k0.trans k150
    refine ⟨fun c16 => ?_, fun c16 => ?_⟩
    · refine sf_X0_addCode k15.2 (fun s13 k170 => ?_)
      have k17 := k15.trans k170
      refine ⟨fun c18 => ?_, fun c18 => ?_⟩
      · refine sf_X1_turnFrames k17.2 (fun s14 k190 => ?_)
        have k19 := k17.trans k190
        exact h _ k19
      · refine sf_X7_isRight k17.2 (fun r16 s15 b21 k200 => ?_)
        have k20 := k17.trans k200
        refine ⟨fun c22 => ?_, fun c22 => ?_⟩
        · refine sf_X2_noteWrong k20.2 (fun s17 k230 => ?_)
          have k23 := k20.trans k230
          refine ⟨Or.inl rfl, ?_⟩
          intro s18 e24
          have k25 : sR s2 s18 := by rw [e24]; exact k23.i _ (by omega)
          refine sf_X1_turnFrames k25.2 (fun s19 k260 => ?_)
          have k26 := k25.trans k260
          exact h _ k26
        · refine sf_X1_turnFrames k20.2 (fun s20 k270 => ?_)
          have k27 := k20.trans k270
          exact h _ k27
    · exact h _ k15
theorem er_X1_readInstruction_0_2 {s3 : zS} {K : zS → Prop} {QX : zS → Prop} (hv : sV s3) (h : ∀ z, sR s3 z → K z) : (((s3.1 1 4) = 0 →
            zCT zZC zmX0_addCode [.ref 8, .int (s3.1 6 3)] s3 (zQv (fun s4 =>
              (((s4.1 4 6) = 0 →
                zCT zZC zmX1_turnFrames [.ref 4] s4 (zQv (fun s5 =>
                  zQv K none s5)) QX) ∧ (¬ (s4.1 4 6) = 0 →
                zCT zZC zmX7_isRight [.ref 7, .ref 6] s4 (zQi (fun r7 s6 =>
                  ((r7 = 0 →
                    zCT zZC zmX2_noteWrong [.ref 2, .int (15 : Int32), .int (s6.1 6 2)] s6 (zQv (fun s8 =>
                      ((0 : Int32) = 0 ∨ (0 : Int32) = 1) ∧ ∀ s9 : zS, s9 = zsI s8 4 6 (0 : Int32) →
                      zCT zZC zmX1_turnFrames [.ref 4] s9 (zQv (fun s10 =>
                        zQv K none s10)) QX)) QX) ∧ (¬ r7 = 0 →
                    zCT zZC zmX1_turnFrames [.ref 4] s6 (zQv (fun s11 =>
                      zQv K none s11)) QX)))) QX)))) QX) ∧ (¬ (s3.1 1 4) = 0 →
            zQv K none s3)) := by
  have k0 : sR s3 s3 := ⟨sK.rf, hv⟩
  refine ⟨fun c1 => ?_, fun c1 => ?_⟩
  · refine sf_X0_addCode k0.2 (fun s4 k20 => ?_)
    have k2 := k0.trans k20
    refine ⟨fun c3 => ?_, fun c3 => ?_⟩
    · refine sf_X1_turnFrames k2.2 (fun s5 k40 => ?_)
      have k4 := k2.trans k40
      exact h _ k4
    · refine sf_X7_isRight k2.2 (fun r7 s6 b6 k50 => ?_)
      have k5 := k2.trans k50
      refine ⟨fun c7 => ?_, fun c7 => ?_⟩
      · refine sf_X2_noteWrong k5.2 (fun s8 k80 => ?_)
        have k8 := k5.trans k80
        refine ⟨Or.inl rfl, ?_⟩
        intro s9 e9
        have k10 : sR s3 s9 := by rw [e9]; exact k8.i _ (by omega)
        refine sf_X1_turnFrames k10.2 (fun s10 k110 => ?_)
        have k11 := k10.trans k110
        exact h _ k11
      · refine sf_X1_turnFrames k5.2 (fun s11 k120 => ?_)
        have k12 := k5.trans k120
        exact h _ k12
  · exact h _ k0
theorem er_X1_readInstruction_0_3 {s4 : zS} {K : zS → Prop} {QX : zS → Prop} (hv : sV s4) (h : ∀ z, sR s4 z → K z) : (((s4.1 4 6) = 0 →
                zCT zZC zmX1_turnFrames [.ref 4] s4 (zQv (fun s5 =>
                  zQv K none s5)) QX) ∧ (¬ (s4.1 4 6) = 0 →
                zCT zZC zmX7_isRight [.ref 7, .ref 6] s4 (zQi (fun r7 s6 =>
                  ((r7 = 0 →
                    zCT zZC zmX2_noteWrong [.ref 2, .int (15 : Int32), .int (s6.1 6 2)] s6 (zQv (fun s8 =>
                      ((0 : Int32) = 0 ∨ (0 : Int32) = 1) ∧ ∀ s9 : zS, s9 = zsI s8 4 6 (0 : Int32) →
                      zCT zZC zmX1_turnFrames [.ref 4] s9 (zQv (fun s10 =>
                        zQv K none s10)) QX)) QX) ∧ (¬ r7 = 0 →
                    zCT zZC zmX1_turnFrames [.ref 4] s6 (zQv (fun s11 =>
                      zQv K none s11)) QX)))) QX)) := by
  have k0 : sR s4 s4 := ⟨sK.rf, hv⟩
  refine ⟨fun c1 => ?_, fun c1 => ?_⟩
  · refine sf_X1_turnFrames k0.2 (fun s5 k20 => ?_)
    have k2 := k0.trans k20
    exact h _ k2
  · refine sf_X7_isRight k0.2 (fun r7 s6 b4 k30 => ?_)
    have k3 := k0.trans k30
    refine ⟨fun c5 => ?_, fun c5 => ?_⟩
    · refine sf_X2_noteWrong k3.2 (fun s8 k60 => ?_)
      have k6 := k3.trans k60
      refine ⟨Or.inl rfl, ?_⟩
      intro s9 e7
      have k8 : sR s4 s9 := by rw [e7]; exact k6.i _ (by omega)
      refine sf_X1_turnFrames k8.2 (fun s10 k90 => ?_)
      have k9 := k8.trans k90
      exact h _ k9
    · refine sf_X1_turnFrames k3.2 (fun s11 k100 => ?_)
      have k10 := k3.trans k100
      exact h _ k10
theorem er_X1_readInstruction_0_4 {s5 : zS} {K : zS → Prop} (hv : sV s5) (h : ∀ z, sR s5 z → K z) : zQv K none s5 := by
  have k0 : sR s5 s5 := ⟨sK.rf, hv⟩
  exact h _ k0
theorem er_X1_readInstruction_0_5 {r7 : Int32} {s6 : zS} {K : zS → Prop} {QX : zS → Prop} (hv : sV s6) (h : ∀ z, sR s6 z → K z) : ((r7 = 0 →
                    zCT zZC zmX2_noteWrong [.ref 2, .int (15 : Int32), .int (s6.1 6 2)] s6 (zQv (fun s8 =>
                      ((0 : Int32) = 0 ∨ (0 : Int32) = 1) ∧ ∀ s9 : zS, s9 = zsI s8 4 6 (0 : Int32) →
                      zCT zZC zmX1_turnFrames [.ref 4] s9 (zQv (fun s10 =>
                        zQv K none s10)) QX)) QX) ∧ (¬ r7 = 0 →
                    zCT zZC zmX1_turnFrames [.ref 4] s6 (zQv (fun s11 =>
                      zQv K none s11)) QX)) := by
  have k0 : sR s6 s6 := ⟨sK.rf, hv⟩
  refine ⟨fun c1 => ?_, fun c1 => ?_⟩
  · refine sf_X2_noteWrong k0.2 (fun s8 k20 => ?_)
    have k2 := k0.trans k20
    refine ⟨Or.inl rfl, ?_⟩
    intro s9 e3
    have k4 : sR s6 s9 := by rw [e3]; exact k2.i _ (by omega)
    refine sf_X1_turnFrames k4.2 (fun s10 k50 => ?_)
    have k5 := k4.trans k50
    exact h _ k5
  · refine sf_X1_turnFrames k0.2 (fun s11 k60 => ?_)
    have k6 := k0.trans k60
    exact h _ k6
theorem er_X1_readInstruction_0_6 {s8 : zS} {K : zS → Prop} {QX : zS → Prop} (hv : sV s8) (h : ∀ z, sR s8 z → K z) : ((0 : Int32) = 0 ∨ (0 : Int32) = 1) ∧ ∀ s9 : zS, s9 = zsI s8 4 6 (0 : Int32) →
                      zCT zZC zmX1_turnFrames [.ref 4] s9 (zQv (fun s10 =>
                        zQv K none s10)) QX := by
  have k0 : sR s8 s8 := ⟨sK.rf, hv⟩
  refine ⟨Or.inl rfl, ?_⟩
  intro s9 e1
  have k2 : sR s8 s9 := by rw [e1]; exact k0.i _ (by omega)
  refine sf_X1_turnFrames k2.2 (fun s10 k30 => ?_)
  have k3 := k2.trans k30
  exact h _ k3
theorem er_X1_readInstruction_0_7 {s10 : zS} {K : zS → Prop} (hv : sV s10) (h : ∀ z, sR s10 z → K z) : zQv K none s10 := by
  have k0 : sR s10 s10 := ⟨sK.rf, hv⟩
  exact h _ k0
theorem er_X1_readInstruction_0_8 {s11 : zS} {K : zS → Prop} (hv : sV s11) (h : ∀ z, sR s11 z → K z) : zQv K none s11 := by
  have k0 : sR s11 s11 := ⟨sK.rf, hv⟩
  exact h _ k0
theorem er_X1_readInstruction_0_9 {s12 : zS} {K : zS → Prop} {QX : zS → Prop} (hv : sV s12) (h : ∀ z, sR s12 z → K z) : (((s12.1 1 4) = 0 →
            zCT zZC zmX0_addCode [.ref 8, .int (s12.1 6 3)] s12 (zQv (fun s13 =>
              (((s13.1 4 6) = 0 →
                zCT zZC zmX1_turnFrames [.ref 4] s13 (zQv (fun s14 =>
                  zQv K none s14)) QX) ∧ (¬ (s13.1 4 6) = 0 →
                zCT zZC zmX7_isRight [.ref 7, .ref 6] s13 (zQi (fun r16 s15 =>
                  ((r16 = 0 →
                    zCT zZC zmX2_noteWrong [.ref 2, .int (15 : Int32), .int (s15.1 6 2)] s15 (zQv (fun s17 =>
                      ((0 : Int32) = 0 ∨ (0 : Int32) = 1) ∧ ∀ s18 : zS, s18 = zsI s17 4 6 (0 : Int32) →
                      zCT zZC zmX1_turnFrames [.ref 4] s18 (zQv (fun s19 =>
                        zQv K none s19)) QX)) QX) ∧ (¬ r16 = 0 →
                    zCT zZC zmX1_turnFrames [.ref 4] s15 (zQv (fun s20 =>
                      zQv K none s20)) QX)))) QX)))) QX) ∧ (¬ (s12.1 1 4) = 0 →
            zQv K none s12)) := by
  have k0 : sR s12 s12 := ⟨sK.rf, hv⟩
  refine ⟨fun c1 => ?_, fun c1 => ?_⟩
  · refine sf_X0_addCode k0.2 (fun s13 k20 => ?_)
    have k2 := k0.trans k20
    refine ⟨fun c3 => ?_, fun c3 => ?_⟩
    · refine sf_X1_turnFrames k2.2 (fun s14 k40 => ?_)
      have k4 := k2.trans k40
      exact h _ k4
    · refine sf_X7_isRight k2.2 (fun r16 s15 b6 k50 => ?_)
      have k5 := k2.trans k50
      refine ⟨fun c7 => ?_, fun c7 => ?_⟩
      · refine sf_X2_noteWrong k5.2 (fun s17 k80 => ?_)
        have k8 := k5.trans k80
        refine ⟨Or.inl rfl, ?_⟩
        intro s18 e9
        have k10 : sR s12 s18 := by rw [e9]; exact k8.i _ (by omega)
        refine sf_X1_turnFrames k10.2 (fun s19 k110 => ?_)
        have k11 := k10.trans k110
        exact h _ k11
      · refine sf_X1_turnFrames k5.2 (fun s20 k120 => ?_)
        have k12 := k5.trans k120
        exact h _ k12
  · exact h _ k0
theorem er_X1_readInstruction_0_10 {s13 : zS} {K : zS → Prop} {QX : zS → Prop} (hv : sV s13) (h : ∀ z, sR s13 z → K z) : (((s13.1 4 6) = 0 →
                zCT zZC zmX1_turnFrames [.ref 4] s13 (zQv (fun s14 =>
                  zQv K none s14)) QX) ∧ (¬ (s13.1 4 6) = 0 →
                zCT zZC zmX7_isRight [.ref 7, .ref 6] s13 (zQi (fun r16 s15 =>
                  ((r16 = 0 →
                    zCT zZC zmX2_noteWrong [.ref 2, .int (15 : Int32), .int (s15.1 6 2)] s15 (zQv (fun s17 =>
                      ((0 : Int32) = 0 ∨ (0 : Int32) = 1) ∧ ∀ s18 : zS, s18 = zsI s17 4 6 (0 : Int32) →
                      zCT zZC zmX1_turnFrames [.ref 4] s18 (zQv (fun s19 =>
                        zQv K none s19)) QX)) QX) ∧ (¬ r16 = 0 →
                    zCT zZC zmX1_turnFrames [.ref 4] s15 (zQv (fun s20 =>
                      zQv K none s20)) QX)))) QX)) := by
  have k0 : sR s13 s13 := ⟨sK.rf, hv⟩
  refine ⟨fun c1 => ?_, fun c1 => ?_⟩
  · refine sf_X1_turnFrames k0.2 (fun s14 k20 => ?_)
    have k2 := k0.trans k20
    exact h _ k2
  · refine sf_X7_isRight k0.2 (fun r16 s15 b4 k30 => ?_)
    have k3 := k0.trans k30
    refine ⟨fun c5 => ?_, fun c5 => ?_⟩
    · refine sf_X2_noteWrong k3.2 (fun s17 k60 => ?_)
      have k6 := k3.trans k60
      refine ⟨Or.inl rfl, ?_⟩
      intro s18 e7
      have k8 : sR s13 s18 := by rw [e7]; exact k6.i _ (by omega)
      refine sf_X1_turnFrames k8.2 (fun s19 k90 => ?_)
      have k9 := k8.trans k90
      exact h _ k9
    · refine sf_X1_turnFrames k3.2 (fun s20 k100 => ?_)
      have k10 := k3.trans k100
      exact h _ k10
theorem er_X1_readInstruction_0_11 {s14 : zS} {K : zS → Prop} (hv : sV s14) (h : ∀ z, sR s14 z → K z) : zQv K none s14 := by
  have k0 : sR s14 s14 := ⟨sK.rf, hv⟩
  exact h _ k0
theorem er_X1_readInstruction_0_12 {r16 : Int32} {s15 : zS} {K : zS → Prop} {QX : zS → Prop} (hv : sV s15) (h : ∀ z, sR s15 z → K z) : ((r16 = 0 →
                    zCT zZC zmX2_noteWrong [.ref 2, .int (15 : Int32), .int (s15.1 6 2)] s15 (zQv (fun s17 =>
                      ((0 : Int32) = 0 ∨ (0 : Int32) = 1) ∧ ∀ s18 : zS, s18 = zsI s17 4 6 (0 : Int32) →
                      zCT zZC zmX1_turnFrames [.ref 4] s18 (zQv (fun s19 =>
                        zQv K none s19)) QX)) QX) ∧ (¬ r16 = 0 →
                    zCT zZC zmX1_turnFrames [.ref 4] s15 (zQv (fun s20 =>
                      zQv K none s20)) QX)) := by
  have k0 : sR s15 s15 := ⟨sK.rf, hv⟩
  refine ⟨fun c1 => ?_, fun c1 => ?_⟩
  · refine sf_X2_noteWrong k0.2 (fun s17 k20 => ?_)
    have k2 := k0.trans k20
    refine ⟨Or.inl rfl, ?_⟩
    intro s18 e3
    have k4 : sR s15 s18 := by rw [e3]; exact k2.i _ (by omega)
    refine sf_X1_turnFrames k4.2 (fun s19 k50 => ?_)
    have k5 := k4.trans k50
    exact h _ k5
  · refine sf_X1_turnFrames k0.2 (fun s20 k60 => ?_)
    have k6 := k0.trans k60
    exact h _ k6
theorem er_X1_readInstruction_0_13 {s17 : zS} {K : zS → Prop} {QX : zS → Prop} (hv : sV s17) (h : ∀ z, sR s17 z → K z) : ((0 : Int32) = 0 ∨ (0 : Int32) = 1) ∧ ∀ s18 : zS, s18 = zsI s17 4 6 (0 : Int32) →
                      zCT zZC zmX1_turnFrames [.ref 4] s18 (zQv (fun s19 =>
                        zQv K none s19)) QX := by
  have k0 : sR s17 s17 := ⟨sK.rf, hv⟩
  refine ⟨Or.inl rfl, ?_⟩
  intro s18 e1
  have k2 : sR s17 s18 := by rw [e1]; exact k0.i _ (by omega)
  refine sf_X1_turnFrames k2.2 (fun s19 k30 => ?_)
  have k3 := k2.trans k30
  exact h _ k3
theorem er_X1_readInstruction_0_14 {s19 : zS} {K : zS → Prop} (hv : sV s19) (h : ∀ z, sR s19 z → K z) : zQv K none s19 := by
  have k0 : sR s19 s19 := ⟨sK.rf, hv⟩
  exact h _ k0
theorem er_X1_readInstruction_0_15 {s20 : zS} {K : zS → Prop} (hv : sV s20) (h : ∀ z, sR s20 z → K z) : zQv K none s20 := by
  have k0 : sR s20 s20 := ⟨sK.rf, hv⟩
  exact h _ k0
theorem er_X6_readElement_0_0 {r2 : Int32} {σ : zS} {s1 : zS} {K : zS → Prop} {QX : zS → Prop} (hv : sV s1) (h : ∀ z, sR s1 z → K z) : ((r2 = 0 →
      (((s1.1 2 10) = 0 →
        zCT zZC zmX2_noteWrong [.ref 2, .int (10 : Int32), .int (σ.1 1 2)] s1 (zQv (fun s3 =>
          zCT zZC zmX6_readConstant [.ref 3, .int (11 : Int32), .int (127 : Int32)] s3 (zQv (fun s4 =>
            zCT zZC zmX6_readRowOfFunctions [.ref 3] s4 (zQv (fun s5 =>
              zQv K none s5)) QX)) QX)) QX) ∧ (¬ (s1.1 2 10) = 0 →
        zCT zZC zmX6_readConstant [.ref 3, .int (11 : Int32), .int (127 : Int32)] s1 (zQv (fun s6 =>
          zCT zZC zmX6_readRowOfFunctions [.ref 3] s6 (zQv (fun s7 =>
            zQv K none s7)) QX)) QX))) ∧ (¬ r2 = 0 →
    ((zin r2 [1, 3] →
      zCT zZC zmX4_octetWithin [.ref 1, .int (0 : Int32), .int (0 : Int32)] s1 (zQi (fun r9 s8 =>
        zCT zZC zmX6_readRowOfFunctions [.ref 3] s8 (zQv (fun s10 =>
          zQv K none s10)) QX)) QX) ∧ (¬ zin r2 [1, 3] →
      zCT zZC zmX4_fail [.ref 1, .int (1 : Int32), .int (σ.1 1 2)] s1 (zQv (fun s11 =>
        zCT zZC zmX6_readRowOfFunctions [.ref 3] s11 (zQv (fun s12 =>
          zQv K none s12)) QX)) QX)))) := by
  have k0 : sR s1 s1 := ⟨sK.rf, hv⟩
  refine ⟨fun c1 => ?_, fun c1 => ?_⟩
  · refine ⟨fun c2 => ?_, fun c2 => ?_⟩
    · refine sf_X2_noteWrong k0.2 (fun s3 k30 => ?_)
      have k3 := k0.trans k30
      refine sf_X6_readConstant k3.2 (fun s4 k40 => ?_)
      have k4 := k3.trans k40
      refine sf_X6_readRowOfFunctions k4.2 (fun s5 k50 => ?_)
      have k5 := k4.trans k50
      exact h _ k5
    · refine sf_X6_readConstant k0.2 (fun s6 k60 => ?_)
      have k6 := k0.trans k60
      refine sf_X6_readRowOfFunctions k6.2 (fun s7 k70 => ?_)
      have k7 := k6.trans k70
      exact h _ k7
  · refine ⟨fun c8 => ?_, fun c8 => ?_⟩
    · refine sf_X4_octetWithin k0.2 (fun r9 s8 k90 => ?_)
      have k9 := k0.trans k90
      refine sf_X6_readRowOfFunctions k9.2 (fun s10 k100 => ?_)
      have k10 := k9.trans k100
      exact h _ k10
    · refine sf_X4_fail k0.2 (fun s11 k110 => ?_)
      have k11 := k0.trans k110
      refine sf_X6_readRowOfFunctions k11.2 (fun s12 k120 => ?_)
      have k12 := k11.trans k120
      exact h _ k12
theorem er_X6_readElement_0_1 {s3 : zS} {K : zS → Prop} {QX : zS → Prop} (hv : sV s3) (h : ∀ z, sR s3 z → K z) : zCT zZC zmX6_readConstant [.ref 3, .int (11 : Int32), .int (127 : Int32)] s3 (zQv (fun s4 =>
            zCT zZC zmX6_readRowOfFunctions [.ref 3] s4 (zQv (fun s5 =>
              zQv K none s5)) QX)) QX := by
  have k0 : sR s3 s3 := ⟨sK.rf, hv⟩
  refine sf_X6_readConstant k0.2 (fun s4 k10 => ?_)
  have k1 := k0.trans k10
  refine sf_X6_readRowOfFunctions k1.2 (fun s5 k20 => ?_)
  have k2 := k1.trans k20
  exact h _ k2
theorem er_X6_readElement_0_2 {s4 : zS} {K : zS → Prop} {QX : zS → Prop} (hv : sV s4) (h : ∀ z, sR s4 z → K z) : zCT zZC zmX6_readRowOfFunctions [.ref 3] s4 (zQv (fun s5 =>
              zQv K none s5)) QX := by
  have k0 : sR s4 s4 := ⟨sK.rf, hv⟩
  refine sf_X6_readRowOfFunctions k0.2 (fun s5 k10 => ?_)
  have k1 := k0.trans k10
  exact h _ k1
theorem er_X6_readElement_0_3 {s5 : zS} {K : zS → Prop} (hv : sV s5) (h : ∀ z, sR s5 z → K z) : zQv K none s5 := by
  have k0 : sR s5 s5 := ⟨sK.rf, hv⟩
  exact h _ k0
theorem er_X6_readElement_0_4 {s6 : zS} {K : zS → Prop} {QX : zS → Prop} (hv : sV s6) (h : ∀ z, sR s6 z → K z) : zCT zZC zmX6_readRowOfFunctions [.ref 3] s6 (zQv (fun s7 =>
            zQv K none s7)) QX := by
  have k0 : sR s6 s6 := ⟨sK.rf, hv⟩
  refine sf_X6_readRowOfFunctions k0.2 (fun s7 k10 => ?_)
  have k1 := k0.trans k10
  exact h _ k1
theorem er_X6_readElement_0_5 {s7 : zS} {K : zS → Prop} (hv : sV s7) (h : ∀ z, sR s7 z → K z) : zQv K none s7 := by
  have k0 : sR s7 s7 := ⟨sK.rf, hv⟩
  exact h _ k0
theorem er_X6_readElement_0_6 {s8 : zS} {K : zS → Prop} {QX : zS → Prop} (hv : sV s8) (h : ∀ z, sR s8 z → K z) : zCT zZC zmX6_readRowOfFunctions [.ref 3] s8 (zQv (fun s10 =>
          zQv K none s10)) QX := by
  have k0 : sR s8 s8 := ⟨sK.rf, hv⟩
  refine sf_X6_readRowOfFunctions k0.2 (fun s10 k10 => ?_)
  have k1 := k0.trans k10
  exact h _ k1
theorem er_X6_readElement_0_7 {s10 : zS} {K : zS → Prop} (hv : sV s10) (h : ∀ z, sR s10 z → K z) : zQv K none s10 := by
  have k0 : sR s10 s10 := ⟨sK.rf, hv⟩
  exact h _ k0
theorem er_X6_readElement_0_8 {s11 : zS} {K : zS → Prop} {QX : zS → Prop} (hv : sV s11) (h : ∀ z, sR s11 z → K z) : zCT zZC zmX6_readRowOfFunctions [.ref 3] s11 (zQv (fun s12 =>
          zQv K none s12)) QX := by
  have k0 : sR s11 s11 := ⟨sK.rf, hv⟩
  refine sf_X6_readRowOfFunctions k0.2 (fun s12 k10 => ?_)
  have k1 := k0.trans k10
  exact h _ k1
theorem er_X6_readElement_0_9 {s12 : zS} {K : zS → Prop} (hv : sV s12) (h : ∀ z, sR s12 z → K z) : zQv K none s12 := by
  have k0 : sR s12 s12 := ⟨sK.rf, hv⟩
  exact h _ k0
theorem er_X6_readExport_0_0 {r2 : Int32} {σ : zS} {s1 : zS} {K : zS → Prop} {QX : zS → Prop} (hv : sV s1) (h : ∀ z, sR s1 z → K z) : zCT zZC zmX4_octetWithin [.ref 1, .int (0 : Int32), .int (3 : Int32)] s1 (zQi (fun r4 s3 =>
      zCT zZC zmX4_number [.ref 1] s3 (zQl (fun r6 s5 =>
        zCT zZC zmX2_countOfKind [.ref 2, .int r4] s5 (zQi (fun r8 s7 =>
          ((r6 < (r8.toInt64) →
            PX6_readExport_82 (zQv K) QX (σ.1 1 2) r2 ((s1.1 1 2) - r2) s7) ∧ (¬ r6 < (r8.toInt64) →
            zCT zZC zmX2_noteWrong [.ref 2, .int (7 : Int32), .int (s3.1 1 2)] s7 (zQv (fun s9 =>
              PX6_readExport_82 (zQv K) QX (σ.1 1 2) r2 ((s1.1 1 2) - r2) s9)) QX)))) QX)) QX)) QX := by
  have k0 : sR s1 s1 := ⟨sK.rf, hv⟩
  refine sf_X4_octetWithin k0.2 (fun r4 s3 k10 => ?_)
  have k1 := k0.trans k10
  refine sf_X4_number k1.2 (fun r6 s5 p3 k20 => ?_)
  have k2 := k1.trans k20
  refine sf_X2_countOfKind k2.2 (fun r8 s7 k40 => ?_)
  have k4 := k2.trans k40
  refine ⟨fun c5 => ?_, fun c5 => ?_⟩
  · unfold PX6_readExport_82
    refine sf_X6_isExported k4.2 (fun r2_6 s1_6 b8 k70 => ?_)
    have k7 := k4.trans k70
    refine ⟨fun c9 => ?_, fun c9 => ?_⟩
    · unfold PX6_readExport_101
      refine ⟨(by unfold vp_in; decide), ?_⟩
      refine ⟨fun c11 => ?_, fun c11 => ?_⟩
      · exact h _ k7
      · refine ⟨(vp_lh k7.2.2.2.2.2.2.1 (vh_1 c11) (by decide)), ?_⟩
        intro s1_10 e12
        have k13 : sR s1 s1_10 := by rw [e12]; exact k7.i _ (by omega)
        refine ⟨(vp_lh k7.2.2.2.2.2.2.1 (vh_1 c11) (by decide)), ?_⟩
        intro s2_10 e14
        have k15 : sR s1 s2_10 := by rw [e14]; exact k13.i _ (by omega)
        exact h _ k15
    · refine sf_X2_noteWrong k7.2 (fun s3_6 k160 => ?_)
      have k16 := k7.trans k160
      unfold PX6_readExport_101
      refine ⟨(by unfold vp_in; decide), ?_⟩
      refine ⟨fun c18 => ?_, fun c18 => ?_⟩
      · exact h _ k16
      · refine ⟨(vp_lh k16.2.2.2.2.2.2.1 (vh_1 c18) (by decide)), ?_⟩
        intro s1_17 e19
        have k20 : sR s1 s1_17 := by rw [e19]; exact k16.i _ (by omega)
        refine ⟨(vp_lh k16.2.2.2.2.2.2.1 (vh_1 c18) (by decide)), ?_⟩
        intro s2_17 e21
        have k22 : sR s1 s2_17 := by rw [e21]; exact k20.i _ (by omega)
        exact h _ k22
  · refine sf_X2_noteWrong k4.2 (fun s9 k230 => ?_)
    have k23 := k4.trans k230
    unfold PX6_readExport_82
    refine sf_X6_isExported k23.2 (fun r2_24 s1_24 b26 k250 => ?_)
    have k25 := k23.trans k250
    refine ⟨fun c27 => ?_, fun c27 => ?_⟩
    · unfold PX6_readExport_101
      refine ⟨(by unfold vp_in; decide), ?_⟩
      refine ⟨fun c29 => ?_, fun c29 => ?_⟩
      · exact h _ k25
      · refine ⟨(vp_lh k25.2.2.2.2.2.2.1 (vh_1 c29) (by decide)), ?_⟩
        intro s1_28 e30
        have k31 : sR s1 s1_28 := by rw [e30]; exact k25.i _ (by omega)
        refine ⟨(vp_lh k25.2.2.2.2.2.2.1 (vh_1 c29) (by decide)), ?_⟩
        intro s2_28 e32
        have k33 : sR s1 s2_28 := by rw [e32]; exact k31.i _ (by omega)
        exact h _ k33
    · refine sf_X2_noteWrong k25.2 (fun s3_24 k340 => ?_)
      have k34 := k25.trans k340
      unfold PX6_readExport_101
      refine ⟨(by unfold vp_in; decide), ?_⟩
      refine ⟨fun c36 => ?_, fun c36 => ?_⟩
      · exact h _ k34
      · refine ⟨(vp_lh k34.2.2.2.2.2.2.1 (vh_1 c36) (by decide)), ?_⟩
        intro s1_35 e37
        have k38 : sR s1 s1_35 := by rw [e37]; exact k34.i _ (by omega)
        refine ⟨(vp_lh k34.2.2.2.2.2.2.1 (vh_1 c36) (by decide)), ?_⟩
        intro s2_35 e39
        have k40 : sR s1 s2_35 := by rw [e39]; exact k38.i _ (by omega)
        exact h _ k40
theorem er_X6_readExport_0_1 {r2 : Int32} {r4 : Int32} {s1 : zS} {σ : zS} {s3 : zS} {K : zS → Prop} {QX : zS → Prop} (hv : sV s3) (h : ∀ z, sR s3 z → K z) : zCT zZC zmX4_number [.ref 1] s3 (zQl (fun r6 s5 =>
        zCT zZC zmX2_countOfKind [.ref 2, .int r4] s5 (zQi (fun r8 s7 =>
          ((r6 < (r8.toInt64) →
            PX6_readExport_82 (zQv K) QX (σ.1 1 2) r2 ((s1.1 1 2) - r2) s7) ∧ (¬ r6 < (r8.toInt64) →
            zCT zZC zmX2_noteWrong [.ref 2, .int (7 : Int32), .int (s3.1 1 2)] s7 (zQv (fun s9 =>
              PX6_readExport_82 (zQv K) QX (σ.1 1 2) r2 ((s1.1 1 2) - r2) s9)) QX)))) QX)) QX := by
  have k0 : sR s3 s3 := ⟨sK.rf, hv⟩
  refine sf_X4_number k0.2 (fun r6 s5 p2 k10 => ?_)
  have k1 := k0.trans k10
  refine sf_X2_countOfKind k1.2 (fun r8 s7 k30 => ?_)
  have k3 := k1.trans k30
  refine ⟨fun c4 => ?_, fun c4 => ?_⟩
  · unfold PX6_readExport_82
    refine sf_X6_isExported k3.2 (fun r2_5 s1_5 b7 k60 => ?_)
    have k6 := k3.trans k60
    refine ⟨fun c8 => ?_, fun c8 => ?_⟩
    · unfold PX6_readExport_101
      refine ⟨(by unfold vp_in; decide), ?_⟩
      refine ⟨fun c10 => ?_, fun c10 => ?_⟩
      · exact h _ k6
      · refine ⟨(vp_lh k6.2.2.2.2.2.2.1 (vh_1 c10) (by decide)), ?_⟩
        intro s1_9 e11
        have k12 : sR s3 s1_9 := by rw [e11]; exact k6.i _ (by omega)
        refine ⟨(vp_lh k6.2.2.2.2.2.2.1 (vh_1 c10) (by decide)), ?_⟩
        intro s2_9 e13
        have k14 : sR s3 s2_9 := by rw [e13]; exact k12.i _ (by omega)
        exact h _ k14
    · refine sf_X2_noteWrong k6.2 (fun s3_5 k150 => ?_)
      have k15 := k6.trans k150
      unfold PX6_readExport_101
      refine ⟨(by unfold vp_in; decide), ?_⟩
      refine ⟨fun c17 => ?_, fun c17 => ?_⟩
      · exact h _ k15
      · refine ⟨(vp_lh k15.2.2.2.2.2.2.1 (vh_1 c17) (by decide)), ?_⟩
        intro s1_16 e18
        have k19 : sR s3 s1_16 := by rw [e18]; exact k15.i _ (by omega)
        refine ⟨(vp_lh k15.2.2.2.2.2.2.1 (vh_1 c17) (by decide)), ?_⟩
        intro s2_16 e20
        have k21 : sR s3 s2_16 := by rw [e20]; exact k19.i _ (by omega)
        exact h _ k21
  · refine sf_X2_noteWrong k3.2 (fun s9 k220 => ?_)
    have k22 := k3.trans k220
    unfold PX6_readExport_82
    refine sf_X6_isExported k22.2 (fun r2_23 s1_23 b25 k240 => ?_)
    have k24 := k22.trans k240
    refine ⟨fun c26 => ?_, fun c26 => ?_⟩
    · unfold PX6_readExport_101
      refine ⟨(by unfold vp_in; decide), ?_⟩
      refine ⟨fun c28 => ?_, fun c28 => ?_⟩
      · exact h _ k24
      · refine ⟨(vp_lh k24.2.2.2.2.2.2.1 (vh_1 c28) (by decide)), ?_⟩
        intro s1_27 e29
        have k30 : sR s3 s1_27 := by rw [e29]; exact k24.i _ (by omega)
        refine ⟨(vp_lh k24.2.2.2.2.2.2.1 (vh_1 c28) (by decide)), ?_⟩
        intro s2_27 e31
        have k32 : sR s3 s2_27 := by rw [e31]; exact k30.i _ (by omega)
        exact h _ k32
    · refine sf_X2_noteWrong k24.2 (fun s3_23 k330 => ?_)
      have k33 := k24.trans k330
      unfold PX6_readExport_101
      refine ⟨(by unfold vp_in; decide), ?_⟩
      refine ⟨fun c35 => ?_, fun c35 => ?_⟩
      · exact h _ k33
      · refine ⟨(vp_lh k33.2.2.2.2.2.2.1 (vh_1 c35) (by decide)), ?_⟩
        intro s1_34 e36
        have k37 : sR s3 s1_34 := by rw [e36]; exact k33.i _ (by omega)
        refine ⟨(vp_lh k33.2.2.2.2.2.2.1 (vh_1 c35) (by decide)), ?_⟩
        intro s2_34 e38
        have k39 : sR s3 s2_34 := by rw [e38]; exact k37.i _ (by omega)
        exact h _ k39
theorem er_X6_readExport_0_2 {r2 : Int32} {r4 : Int32} {r6 : Int64} {s1 : zS} {s3 : zS} {σ : zS} {s5 : zS} {K : zS → Prop} {QX : zS → Prop} (hv : sV s5) (h : ∀ z, sR s5 z → K z) : zCT zZC zmX2_countOfKind [.ref 2, .int r4] s5 (zQi (fun r8 s7 =>
          ((r6 < (r8.toInt64) →
            PX6_readExport_82 (zQv K) QX (σ.1 1 2) r2 ((s1.1 1 2) - r2) s7) ∧ (¬ r6 < (r8.toInt64) →
            zCT zZC zmX2_noteWrong [.ref 2, .int (7 : Int32), .int (s3.1 1 2)] s7 (zQv (fun s9 =>
              PX6_readExport_82 (zQv K) QX (σ.1 1 2) r2 ((s1.1 1 2) - r2) s9)) QX)))) QX := by
  have k0 : sR s5 s5 := ⟨sK.rf, hv⟩
  refine sf_X2_countOfKind k0.2 (fun r8 s7 k10 => ?_)
  have k1 := k0.trans k10
  refine ⟨fun c2 => ?_, fun c2 => ?_⟩
  · unfold PX6_readExport_82
    refine sf_X6_isExported k1.2 (fun r2_3 s1_3 b5 k40 => ?_)
    have k4 := k1.trans k40
    refine ⟨fun c6 => ?_, fun c6 => ?_⟩
    · unfold PX6_readExport_101
      refine ⟨(by unfold vp_in; decide), ?_⟩
      refine ⟨fun c8 => ?_, fun c8 => ?_⟩
      · exact h _ k4
      · refine ⟨(vp_lh k4.2.2.2.2.2.2.1 (vh_1 c8) (by decide)), ?_⟩
        intro s1_7 e9
        have k10 : sR s5 s1_7 := by rw [e9]; exact k4.i _ (by omega)
        refine ⟨(vp_lh k4.2.2.2.2.2.2.1 (vh_1 c8) (by decide)), ?_⟩
        intro s2_7 e11
        have k12 : sR s5 s2_7 := by rw [e11]; exact k10.i _ (by omega)
        exact h _ k12
    · refine sf_X2_noteWrong k4.2 (fun s3_3 k130 => ?_)
      have k13 := k4.trans k130
      unfold PX6_readExport_101
      refine ⟨(by unfold vp_in; decide), ?_⟩
      refine ⟨fun c15 => ?_, fun c15 => ?_⟩
      · exact h _ k13
      · refine ⟨(vp_lh k13.2.2.2.2.2.2.1 (vh_1 c15) (by decide)), ?_⟩
        intro s1_14 e16
        have k17 : sR s5 s1_14 := by rw [e16]; exact k13.i _ (by omega)
        refine ⟨(vp_lh k13.2.2.2.2.2.2.1 (vh_1 c15) (by decide)), ?_⟩
        intro s2_14 e18
        have k19 : sR s5 s2_14 := by rw [e18]; exact k17.i _ (by omega)
        exact h _ k19
  · refine sf_X2_noteWrong k1.2 (fun s9 k200 => ?_)
    have k20 := k1.trans k200
    unfold PX6_readExport_82
    refine sf_X6_isExported k20.2 (fun r2_21 s1_21 b23 k220 => ?_)
    have k22 := k20.trans k220
    refine ⟨fun c24 => ?_, fun c24 => ?_⟩
    · unfold PX6_readExport_101
      refine ⟨(by unfold vp_in; decide), ?_⟩
      refine ⟨fun c26 => ?_, fun c26 => ?_⟩
      · exact h _ k22
      · refine ⟨(vp_lh k22.2.2.2.2.2.2.1 (vh_1 c26) (by decide)), ?_⟩
        intro s1_25 e27
        have k28 : sR s5 s1_25 := by rw [e27]; exact k22.i _ (by omega)
        refine ⟨(vp_lh k22.2.2.2.2.2.2.1 (vh_1 c26) (by decide)), ?_⟩
        intro s2_25 e29
        have k30 : sR s5 s2_25 := by rw [e29]; exact k28.i _ (by omega)
        exact h _ k30
    · refine sf_X2_noteWrong k22.2 (fun s3_21 k310 => ?_)
      have k31 := k22.trans k310
      unfold PX6_readExport_101
      refine ⟨(by unfold vp_in; decide), ?_⟩
      refine ⟨fun c33 => ?_, fun c33 => ?_⟩
      · exact h _ k31
      · refine ⟨(vp_lh k31.2.2.2.2.2.2.1 (vh_1 c33) (by decide)), ?_⟩
        intro s1_32 e34
        have k35 : sR s5 s1_32 := by rw [e34]; exact k31.i _ (by omega)
        refine ⟨(vp_lh k31.2.2.2.2.2.2.1 (vh_1 c33) (by decide)), ?_⟩
        intro s2_32 e36
        have k37 : sR s5 s2_32 := by rw [e36]; exact k35.i _ (by omega)
        exact h _ k37
theorem er_X6_readExport_0_3 {r2 : Int32} {r6 : Int64} {r8 : Int32} {s1 : zS} {s3 : zS} {σ : zS} {s7 : zS} {K : zS → Prop} {QX : zS → Prop} (hv : sV s7) (h : ∀ z, sR s7 z → K z) : ((r6 < (r8.toInt64) →
            PX6_readExport_82 (zQv K) QX (σ.1 1 2) r2 ((s1.1 1 2) - r2) s7) ∧ (¬ r6 < (r8.toInt64) →
            zCT zZC zmX2_noteWrong [.ref 2, .int (7 : Int32), .int (s3.1 1 2)] s7 (zQv (fun s9 =>
              PX6_readExport_82 (zQv K) QX (σ.1 1 2) r2 ((s1.1 1 2) - r2) s9)) QX)) := by
  have k0 : sR s7 s7 := ⟨sK.rf, hv⟩
  refine ⟨fun c1 => ?_, fun c1 => ?_⟩
  · unfold PX6_readExport_82
    refine sf_X6_isExported k0.2 (fun r2_2 s1_2 b4 k30 => ?_)
    have k3 := k0.trans k30
    refine ⟨fun c5 => ?_, fun c5 => ?_⟩
    · unfold PX6_readExport_101
      refine ⟨(by unfold vp_in; decide), ?_⟩
      refine ⟨fun c7 => ?_, fun c7 => ?_⟩
      · exact h _ k3
      · refine ⟨(vp_lh k3.2.2.2.2.2.2.1 (vh_1 c7) (by decide)), ?_⟩
        intro s1_6 e8
        have k9 : sR s7 s1_6 := by rw [e8]; exact k3.i _ (by omega)
        refine ⟨(vp_lh k3.2.2.2.2.2.2.1 (vh_1 c7) (by decide)), ?_⟩
        intro s2_6 e10
        have k11 : sR s7 s2_6 := by rw [e10]; exact k9.i _ (by omega)
        exact h _ k11
    · refine sf_X2_noteWrong k3.2 (fun s3_2 k120 => ?_)
      have k12 := k3.trans k120
      unfold PX6_readExport_101
      refine ⟨(by unfold vp_in; decide), ?_⟩
      refine ⟨fun c14 => ?_, fun c14 => ?_⟩
      · exact h _ k12
      · refine ⟨(vp_lh k12.2.2.2.2.2.2.1 (vh_1 c14) (by decide)), ?_⟩
        intro s1_13 e15
        have k16 : sR s7 s1_13 := by rw [e15]; exact k12.i _ (by omega)
        refine ⟨(vp_lh k12.2.2.2.2.2.2.1 (vh_1 c14) (by decide)), ?_⟩
        intro s2_13 e17
        have k18 : sR s7 s2_13 := by rw [e17]; exact k16.i _ (by omega)
        exact h _ k18
  · refine sf_X2_noteWrong k0.2 (fun s9 k190 => ?_)
    have k19 := k0.trans k190
    unfold PX6_readExport_82
    refine sf_X6_isExported k19.2 (fun r2_20 s1_20 b22 k210 => ?_)
    have k21 := k19.trans k210
    refine ⟨fun c23 => ?_, fun c23 => ?_⟩
    · unfold PX6_readExport_101
      refine ⟨(by unfold vp_in; decide), ?_⟩
      refine ⟨fun c25 => ?_, fun c25 => ?_⟩
      · exact h _ k21
      · refine ⟨(vp_lh k21.2.2.2.2.2.2.1 (vh_1 c25) (by decide)), ?_⟩
        intro s1_24 e26
        have k27 : sR s7 s1_24 := by rw [e26]; exact k21.i _ (by omega)
        refine ⟨(vp_lh k21.2.2.2.2.2.2.1 (vh_1 c25) (by decide)), ?_⟩
        intro s2_24 e28
        have k29 : sR s7 s2_24 := by rw [e28]; exact k27.i _ (by omega)
        exact h _ k29
    · refine sf_X2_noteWrong k21.2 (fun s3_20 k300 => ?_)
      have k30 := k21.trans k300
      unfold PX6_readExport_101
      refine ⟨(by unfold vp_in; decide), ?_⟩
      refine ⟨fun c32 => ?_, fun c32 => ?_⟩
      · exact h _ k30
      · refine ⟨(vp_lh k30.2.2.2.2.2.2.1 (vh_1 c32) (by decide)), ?_⟩
        intro s1_31 e33
        have k34 : sR s7 s1_31 := by rw [e33]; exact k30.i _ (by omega)
        refine ⟨(vp_lh k30.2.2.2.2.2.2.1 (vh_1 c32) (by decide)), ?_⟩
        intro s2_31 e35
        have k36 : sR s7 s2_31 := by rw [e35]; exact k34.i _ (by omega)
        exact h _ k36
theorem er_X6_readExport_0_4 {r2 : Int32} {s1 : zS} {σ : zS} {s9 : zS} {K : zS → Prop} {QX : zS → Prop} (hv : sV s9) (h : ∀ z, sR s9 z → K z) : PX6_readExport_82 (zQv K) QX (σ.1 1 2) r2 ((s1.1 1 2) - r2) s9 := by
  have k0 : sR s9 s9 := ⟨sK.rf, hv⟩
  unfold PX6_readExport_82
  refine sf_X6_isExported k0.2 (fun r2_1 s1_1 b3 k20 => ?_)
  have k2 := k0.trans k20
  refine ⟨fun c4 => ?_, fun c4 => ?_⟩
  · unfold PX6_readExport_101
    refine ⟨(by unfold vp_in; decide), ?_⟩
    refine ⟨fun c6 => ?_, fun c6 => ?_⟩
    · exact h _ k2
    · refine ⟨(vp_lh k2.2.2.2.2.2.2.1 (vh_1 c6) (by decide)), ?_⟩
      intro s1_5 e7
      have k8 : sR s9 s1_5 := by rw [e7]; exact k2.i _ (by omega)
      refine ⟨(vp_lh k2.2.2.2.2.2.2.1 (vh_1 c6) (by decide)), ?_⟩
      intro s2_5 e9
      have k10 : sR s9 s2_5 := by rw [e9]; exact k8.i _ (by omega)
      exact h _ k10
  · refine sf_X2_noteWrong k2.2 (fun s3_1 k110 => ?_)
    have k11 := k2.trans k110
    unfold PX6_readExport_101
    refine ⟨(by unfold vp_in; decide), ?_⟩
    refine ⟨fun c13 => ?_, fun c13 => ?_⟩
    · exact h _ k11
    · refine ⟨(vp_lh k11.2.2.2.2.2.2.1 (vh_1 c13) (by decide)), ?_⟩
      intro s1_12 e14
      have k15 : sR s9 s1_12 := by rw [e14]; exact k11.i _ (by omega)
      refine ⟨(vp_lh k11.2.2.2.2.2.2.1 (vh_1 c13) (by decide)), ?_⟩
      intro s2_12 e16
      have k17 : sR s9 s2_12 := by rw [e16]; exact k15.i _ (by omega)
      exact h _ k17
theorem er_X6_readExport_82_0 {r2 : Int32} {x1 : Int32} {x2 : Int32} {x3 : Int32} {s1 : zS} {K : zS → Prop} {QX : zS → Prop} (hv : sV s1) (h : ∀ z, sR s1 z → K z) : ((r2 = 0 →
      PX6_readExport_101 (zQv K) QX x2 x3 s1) ∧ (¬ r2 = 0 →
      zCT zZC zmX2_noteWrong [.ref 2, .int (8 : Int32), .int x1] s1 (zQv (fun s3 =>
        PX6_readExport_101 (zQv K) QX x2 x3 s3)) QX)) := by
  have k0 : sR s1 s1 := ⟨sK.rf, hv⟩
  refine ⟨fun c1 => ?_, fun c1 => ?_⟩
  · unfold PX6_readExport_101
    refine ⟨(by unfold vp_in; decide), ?_⟩
    refine ⟨fun c3 => ?_, fun c3 => ?_⟩
    · exact h _ k0
    · refine ⟨(vp_lh k0.2.2.2.2.2.2.1 (vh_1 c3) (by decide)), ?_⟩
      intro s1_2 e4
      have k5 : sR s1 s1_2 := by rw [e4]; exact k0.i _ (by omega)
      refine ⟨(vp_lh k0.2.2.2.2.2.2.1 (vh_1 c3) (by decide)), ?_⟩
      intro s2_2 e6
      have k7 : sR s1 s2_2 := by rw [e6]; exact k5.i _ (by omega)
      exact h _ k7
  · refine sf_X2_noteWrong k0.2 (fun s3 k80 => ?_)
    have k8 := k0.trans k80
    unfold PX6_readExport_101
    refine ⟨(by unfold vp_in; decide), ?_⟩
    refine ⟨fun c10 => ?_, fun c10 => ?_⟩
    · exact h _ k8
    · refine ⟨(vp_lh k8.2.2.2.2.2.2.1 (vh_1 c10) (by decide)), ?_⟩
      intro s1_9 e11
      have k12 : sR s1 s1_9 := by rw [e11]; exact k8.i _ (by omega)
      refine ⟨(vp_lh k8.2.2.2.2.2.2.1 (vh_1 c10) (by decide)), ?_⟩
      intro s2_9 e13
      have k14 : sR s1 s2_9 := by rw [e13]; exact k12.i _ (by omega)
      exact h _ k14
theorem er_X6_readExport_82_1 {x2 : Int32} {x3 : Int32} {s3 : zS} {K : zS → Prop} {QX : zS → Prop} (hv : sV s3) (h : ∀ z, sR s3 z → K z) : PX6_readExport_101 (zQv K) QX x2 x3 s3 := by
  have k0 : sR s3 s3 := ⟨sK.rf, hv⟩
  unfold PX6_readExport_101
  refine ⟨(by unfold vp_in; decide), ?_⟩
  refine ⟨fun c2 => ?_, fun c2 => ?_⟩
  · exact h _ k0
  · refine ⟨(vp_lh k0.2.2.2.2.2.2.1 (vh_1 c2) (by decide)), ?_⟩
    intro s1_1 e3
    have k4 : sR s3 s1_1 := by rw [e3]; exact k0.i _ (by omega)
    refine ⟨(vp_lh k0.2.2.2.2.2.2.1 (vh_1 c2) (by decide)), ?_⟩
    intro s2_1 e5
    have k6 : sR s3 s2_1 := by rw [e5]; exact k4.i _ (by omega)
    exact h _ k6
theorem er_X6_readImport_0_0 {σ : zS} {s1 : zS} {K : zS → Prop} {QX : zS → Prop} (hv : sV s1) (h : ∀ z, sR s1 z → K z) : zCT zZC zmX4_outerName [.ref 1] s1 (zQi (fun r4 s3 =>
      zCT zZC zmX4_octetWithin [.ref 1, .int (0 : Int32), .int (3 : Int32)] s3 (zQi (fun r6 s5 =>
        ((r6 = 0 →
          zCT zZC zmX6_readSignatureOfFunction [.ref 3, .int (0 : Int32)] s5 (zQv (fun s7 =>
            ∀ s8 : zS, s8 = zsI s7 2 9 ((s7.1 2 9) + (1 : Int32)) →
            zQv K none s8)) QX) ∧ (¬ r6 = 0 →
        ((r6 = 1 →
          zCT zZC zmX4_octetWithin [.ref 1, .int (112 : Int32), .int (112 : Int32)] s5 (zQi (fun r10 s9 =>
            zCT zZC zmX6_readLimits [.ref 3, .int (0 : Int32), .int (0 : Int32)] s9 (zQv (fun s11 =>
              zCT zZC zmX6_addTable [.ref 3, .int (σ.1 1 2)] s11 (zQv (fun s12 =>
                zQv K none s12)) QX)) QX)) QX) ∧ (¬ r6 = 1 →
        ((r6 = 2 →
          zCT zZC zmX6_readLimits [.ref 3, .int (0 : Int32), .int (1 : Int32)] s5 (zQv (fun s13 =>
            zCT zZC zmX6_addMemory [.ref 3, .int (σ.1 1 2)] s13 (zQv (fun s14 =>
              zQv K none s14)) QX)) QX) ∧ (¬ r6 = 2 →
          zCT zZC zmX4_type [.ref 1] s5 (zQi (fun r16 s15 =>
            zCT zZC zmX4_octetWithin [.ref 1, .int (0 : Int32), .int (1 : Int32)] s15 (zQi (fun r18 s17 =>
              ((r18 = (1 : Int32) →
                zCT zZC zmX2_addGlobal [.ref 2, .int r16, .int (1 : Int32)] s17 (zQv (fun s19 =>
                  ∀ s20 : zS, s20 = zsI s19 2 13 ((s19.1 2 13) + (1 : Int32)) →
                  zQv K none s20)) QX) ∧ (¬ r18 = (1 : Int32) →
                zCT zZC zmX2_addGlobal [.ref 2, .int r16, .int (0 : Int32)] s17 (zQv (fun s21 =>
                  ∀ s22 : zS, s22 = zsI s21 2 13 ((s21.1 2 13) + (1 : Int32)) →
                  zQv K none s22)) QX)))) QX)) QX)))))))) QX)) QX := by
  have k0 : sR s1 s1 := ⟨sK.rf, hv⟩
  refine sf_X4_outerName k0.2 (fun r4 s3 k10 => ?_)
  have k1 := k0.trans k10
  refine sf_X4_octetWithin k1.2 (fun r6 s5 k20 => ?_)
  have k2 := k1.trans k20
  refine ⟨fun c3 => ?_, fun c3 => ?_⟩
  · refine sf_X6_readSignatureOfFunction k2.2 (fun s7 k40 => ?_)
    have k4 := k2.trans k40
    intro s8 e5
    have k6 : sR s1 s8 := by rw [e5]; exact k4.i _ (by omega)
    exact h _ k6
  · refine ⟨fun c7 => ?_, fun c7 => ?_⟩
    · refine sf_X4_octetWithin k2.2 (fun r10 s9 k80 => ?_)
      have k8 := k2.trans k80
      refine sf_X6_readLimits k8.2 (fun s11 k90 => ?_)
      have k9 := k8.trans k90
      refine sf_X6_addTable k9.2 (fun s12 k100 => ?_)
      have k10 := k9.trans k100
      exact h _ k10
    · refine ⟨fun c11 => ?_, fun c11 => ?_⟩
      · refine sf_X6_readLimits k2.2 (fun s13 k120 => ?_)
        have k12 := k2.trans k120
        refine sf_X6_addMemory k12.2 (fun s14 k130 => ?_)
        have k13 := k12.trans k130
        exact h _ k13
      · refine sf_X4_type k2.2 (fun r16 s15 k140 => ?_)
        have k14 := k2.trans k140
        refine sf_X4_octetWithin k14.2 (fun r18 s17 k150 => ?_)
        have k15 := k14.trans k150
        refine ⟨fun c16 => ?_, fun c16 => ?_⟩
        · refine sf_X2_addGlobal k15.2 (fun s19 k170 => ?_)
          have k17 := k15.trans k170
          intro s20 e18
          have k19 : sR s1 s20 := by rw [e18]; exact k17.i _ (by omega)
          exact h _ k19
        · refine sf_X2_addGlobal k15.2 (fun s21 k200 => ?_)
          have k20 := k15.trans k200
          intro s22 e21
          have k22 : sR s1 s22 := by rw [e21]; exact k20.i _ (by omega)
          exact h _ k22
theorem er_X6_readImport_0_1 {σ : zS} {s3 : zS} {K : zS → Prop} {QX : zS → Prop} (hv : sV s3) (h : ∀ z, sR s3 z → K z) : zCT zZC zmX4_octetWithin [.ref 1, .int (0 : Int32), .int (3 : Int32)] s3 (zQi (fun r6 s5 =>
        ((r6 = 0 →
          zCT zZC zmX6_readSignatureOfFunction [.ref 3, .int (0 : Int32)] s5 (zQv (fun s7 =>
            ∀ s8 : zS, s8 = zsI s7 2 9 ((s7.1 2 9) + (1 : Int32)) →
            zQv K none s8)) QX) ∧ (¬ r6 = 0 →
        ((r6 = 1 →
          zCT zZC zmX4_octetWithin [.ref 1, .int (112 : Int32), .int (112 : Int32)] s5 (zQi (fun r10 s9 =>
            zCT zZC zmX6_readLimits [.ref 3, .int (0 : Int32), .int (0 : Int32)] s9 (zQv (fun s11 =>
              zCT zZC zmX6_addTable [.ref 3, .int (σ.1 1 2)] s11 (zQv (fun s12 =>
                zQv K none s12)) QX)) QX)) QX) ∧ (¬ r6 = 1 →
        ((r6 = 2 →
          zCT zZC zmX6_readLimits [.ref 3, .int (0 : Int32), .int (1 : Int32)] s5 (zQv (fun s13 =>
            zCT zZC zmX6_addMemory [.ref 3, .int (σ.1 1 2)] s13 (zQv (fun s14 =>
              zQv K none s14)) QX)) QX) ∧ (¬ r6 = 2 →
          zCT zZC zmX4_type [.ref 1] s5 (zQi (fun r16 s15 =>
            zCT zZC zmX4_octetWithin [.ref 1, .int (0 : Int32), .int (1 : Int32)] s15 (zQi (fun r18 s17 =>
              ((r18 = (1 : Int32) →
                zCT zZC zmX2_addGlobal [.ref 2, .int r16, .int (1 : Int32)] s17 (zQv (fun s19 =>
                  ∀ s20 : zS, s20 = zsI s19 2 13 ((s19.1 2 13) + (1 : Int32)) →
                  zQv K none s20)) QX) ∧ (¬ r18 = (1 : Int32) →
                zCT zZC zmX2_addGlobal [.ref 2, .int r16, .int (0 : Int32)] s17 (zQv (fun s21 =>
                  ∀ s22 : zS, s22 = zsI s21 2 13 ((s21.1 2 13) + (1 : Int32)) →
                  zQv K none s22)) QX)))) QX)) QX)))))))) QX := by
  have k0 : sR s3 s3 := ⟨sK.rf, hv⟩
  refine sf_X4_octetWithin k0.2 (fun r6 s5 k10 => ?_)
  have k1 := k0.trans k10
  refine ⟨fun c2 => ?_, fun c2 => ?_⟩
  · refine sf_X6_readSignatureOfFunction k1.2 (fun s7 k30 => ?_)
    have k3 := k1.trans k30
    intro s8 e4
    have k5 : sR s3 s8 := by rw [e4]; exact k3.i _ (by omega)
    exact h _ k5
  · refine ⟨fun c6 => ?_, fun c6 => ?_⟩
    · refine sf_X4_octetWithin k1.2 (fun r10 s9 k70 => ?_)
      have k7 := k1.trans k70
      refine sf_X6_readLimits k7.2 (fun s11 k80 => ?_)
      have k8 := k7.trans k80
      refine sf_X6_addTable k8.2 (fun s12 k90 => ?_)
      have k9 := k8.trans k90
      exact h _ k9
    · refine ⟨fun c10 => ?_, fun c10 => ?_⟩
      · refine sf_X6_readLimits k1.2 (fun s13 k110 => ?_)
        have k11 := k1.trans k110
        refine sf_X6_addMemory k11.2 (fun s14 k120 => ?_)
        have k12 := k11.trans k120
        exact h _ k12
      · refine sf_X4_type k1.2 (fun r16 s15 k130 => ?_)
        have k13 := k1.trans k130
        refine sf_X4_octetWithin k13.2 (fun r18 s17 k140 => ?_)
        have k14 := k13.trans k140
        refine ⟨fun c15 => ?_, fun c15 => ?_⟩
        · refine sf_X2_addGlobal k14.2 (fun s19 k160 => ?_)
          have k16 := k14.trans k160
          intro s20 e17
          have k18 : sR s3 s20 := by rw [e17]; exact k16.i _ (by omega)
          exact h _ k18
        · refine sf_X2_addGlobal k14.2 (fun s21 k190 => ?_)
          have k19 := k14.trans k190
          intro s22 e20
          have k21 : sR s3 s22 := by rw [e20]; exact k19.i _ (by omega)
          exact h _ k21
theorem er_X6_readImport_0_2 {r6 : Int32} {σ : zS} {s5 : zS} {K : zS → Prop} {QX : zS → Prop} (hv : sV s5) (h : ∀ z, sR s5 z → K z) : ((r6 = 0 →
          zCT zZC zmX6_readSignatureOfFunction [.ref 3, .int (0 : Int32)] s5 (zQv (fun s7 =>
            ∀ s8 : zS, s8 = zsI s7 2 9 ((s7.1 2 9) + (1 : Int32)) →
            zQv K none s8)) QX) ∧ (¬ r6 = 0 →
        ((r6 = 1 →
          zCT zZC zmX4_octetWithin [.ref 1, .int (112 : Int32), .int (112 : Int32)] s5 (zQi (fun r10 s9 =>
            zCT zZC zmX6_readLimits [.ref 3, .int (0 : Int32), .int (0 : Int32)] s9 (zQv (fun s11 =>
              zCT zZC zmX6_addTable [.ref 3, .int (σ.1 1 2)] s11 (zQv (fun s12 =>
                zQv K none s12)) QX)) QX)) QX) ∧ (¬ r6 = 1 →
        ((r6 = 2 →
          zCT zZC zmX6_readLimits [.ref 3, .int (0 : Int32), .int (1 : Int32)] s5 (zQv (fun s13 =>
            zCT zZC zmX6_addMemory [.ref 3, .int (σ.1 1 2)] s13 (zQv (fun s14 =>
              zQv K none s14)) QX)) QX) ∧ (¬ r6 = 2 →
          zCT zZC zmX4_type [.ref 1] s5 (zQi (fun r16 s15 =>
            zCT zZC zmX4_octetWithin [.ref 1, .int (0 : Int32), .int (1 : Int32)] s15 (zQi (fun r18 s17 =>
              ((r18 = (1 : Int32) →
                zCT zZC zmX2_addGlobal [.ref 2, .int r16, .int (1 : Int32)] s17 (zQv (fun s19 =>
                  ∀ s20 : zS, s20 = zsI s19 2 13 ((s19.1 2 13) + (1 : Int32)) →
                  zQv K none s20)) QX) ∧ (¬ r18 = (1 : Int32) →
                zCT zZC zmX2_addGlobal [.ref 2, .int r16, .int (0 : Int32)] s17 (zQv (fun s21 =>
                  ∀ s22 : zS, s22 = zsI s21 2 13 ((s21.1 2 13) + (1 : Int32)) →
                  zQv K none s22)) QX)))) QX)) QX)))))) := by
  have k0 : sR s5 s5 := ⟨sK.rf, hv⟩
  refine ⟨fun c1 => ?_, fun c1 => ?_⟩
  · refine sf_X6_readSignatureOfFunction k0.2 (fun s7 k20 => ?_)
    have k2 := k0.trans k20
    intro s8 e3
    have k4 : sR s5 s8 := by rw [e3]; exact k2.i _ (by omega)
    exact h _ k4
  · refine ⟨fun c5 => ?_, fun c5 => ?_⟩
    · refine sf_X4_octetWithin k0.2 (fun r10 s9 k60 => ?_)
      have k6 := k0.trans k60
      refine sf_X6_readLimits k6.2 (fun s11 k70 => ?_)
      have k7 := k6.trans k70
      refine sf_X6_addTable k7.2 (fun s12 k80 => ?_)
      have k8 := k7.trans k80
      exact h _ k8
    · refine ⟨fun c9 => ?_, fun c9 => ?_⟩
      · refine sf_X6_readLimits k0.2 (fun s13 k100 => ?_)
        have k10 := k0.trans k100
        refine sf_X6_addMemory k10.2 (fun s14 k110 => ?_)
        have k11 := k10.trans k110
        exact h _ k11
      · refine sf_X4_type k0.2 (fun r16 s15 k120 => ?_)
        have k12 := k0.trans k120
        refine sf_X4_octetWithin k12.2 (fun r18 s17 k130 => ?_)
        have k13 := k12.trans k130
        refine ⟨fun c14 => ?_, fun c14 => ?_⟩
        · refine sf_X2_addGlobal k13.2 (fun s19 k150 => ?_)
          have k15 := k13.trans k150
          intro s20 e16
          have k17 : sR s5 s20 := by rw [e16]; exact k15.i _ (by omega)
          exact h _ k17
        · refine sf_X2_addGlobal k13.2 (fun s21 k180 => ?_)
          have k18 := k13.trans k180
          intro s22 e19
          have k20 : sR s5 s22 := by rw [e19]; exact k18.i _ (by omega)
          exact h _ k20
theorem er_X6_readImport_0_3 {s7 : zS} {K : zS → Prop} (hv : sV s7) (h : ∀ z, sR s7 z → K z) : ∀ s8 : zS, s8 = zsI s7 2 9 ((s7.1 2 9) + (1 : Int32)) →
            zQv K none s8 := by
  have k0 : sR s7 s7 := ⟨sK.rf, hv⟩
  intro s8 e1
  have k2 : sR s7 s8 := by rw [e1]; exact k0.i _ (by omega)
  exact h _ k2
theorem er_X6_readImport_0_4 {σ : zS} {s9 : zS} {K : zS → Prop} {QX : zS → Prop} (hv : sV s9) (h : ∀ z, sR s9 z → K z) : zCT zZC zmX6_readLimits [.ref 3, .int (0 : Int32), .int (0 : Int32)] s9 (zQv (fun s11 =>
              zCT zZC zmX6_addTable [.ref 3, .int (σ.1 1 2)] s11 (zQv (fun s12 =>
                zQv K none s12)) QX)) QX := by
  have k0 : sR s9 s9 := ⟨sK.rf, hv⟩
  refine sf_X6_readLimits k0.2 (fun s11 k10 => ?_)
  have k1 := k0.trans k10
  refine sf_X6_addTable k1.2 (fun s12 k20 => ?_)
  have k2 := k1.trans k20
  exact h _ k2
theorem er_X6_readImport_0_5 {σ : zS} {s11 : zS} {K : zS → Prop} {QX : zS → Prop} (hv : sV s11) (h : ∀ z, sR s11 z → K z) : zCT zZC zmX6_addTable [.ref 3, .int (σ.1 1 2)] s11 (zQv (fun s12 =>
                zQv K none s12)) QX := by
  have k0 : sR s11 s11 := ⟨sK.rf, hv⟩
  refine sf_X6_addTable k0.2 (fun s12 k10 => ?_)
  have k1 := k0.trans k10
  exact h _ k1
theorem er_X6_readImport_0_6 {s12 : zS} {K : zS → Prop} (hv : sV s12) (h : ∀ z, sR s12 z → K z) : zQv K none s12 := by
  have k0 : sR s12 s12 := ⟨sK.rf, hv⟩
  exact h _ k0
theorem er_X6_readImport_0_7 {σ : zS} {s13 : zS} {K : zS → Prop} {QX : zS → Prop} (hv : sV s13) (h : ∀ z, sR s13 z → K z) : zCT zZC zmX6_addMemory [.ref 3, .int (σ.1 1 2)] s13 (zQv (fun s14 =>
              zQv K none s14)) QX := by
  have k0 : sR s13 s13 := ⟨sK.rf, hv⟩
  refine sf_X6_addMemory k0.2 (fun s14 k10 => ?_)
  have k1 := k0.trans k10
  exact h _ k1
theorem er_X6_readImport_0_8 {s14 : zS} {K : zS → Prop} (hv : sV s14) (h : ∀ z, sR s14 z → K z) : zQv K none s14 := by
  have k0 : sR s14 s14 := ⟨sK.rf, hv⟩
  exact h _ k0
theorem er_X6_readImport_0_9 {r16 : Int32} {s15 : zS} {K : zS → Prop} {QX : zS → Prop} (hv : sV s15) (h : ∀ z, sR s15 z → K z) : zCT zZC zmX4_octetWithin [.ref 1, .int (0 : Int32), .int (1 : Int32)] s15 (zQi (fun r18 s17 =>
              ((r18 = (1 : Int32) →
                zCT zZC zmX2_addGlobal [.ref 2, .int r16, .int (1 : Int32)] s17 (zQv (fun s19 =>
                  ∀ s20 : zS, s20 = zsI s19 2 13 ((s19.1 2 13) + (1 : Int32)) →
                  zQv K none s20)) QX) ∧ (¬ r18 = (1 : Int32) →
                zCT zZC zmX2_addGlobal [.ref 2, .int r16, .int (0 : Int32)] s17 (zQv (fun s21 =>
                  ∀ s22 : zS, s22 = zsI s21 2 13 ((s21.1 2 13) + (1 : Int32)) →
                  zQv K none s22)) QX)))) QX := by
  have k0 : sR s15 s15 := ⟨sK.rf, hv⟩
  refine sf_X4_octetWithin k0.2 (fun r18 s17 k10 => ?_)
  have k1 := k0.trans k10
  refine ⟨fun c2 => ?_, fun c2 => ?_⟩
  · refine sf_X2_addGlobal k1.2 (fun s19 k30 => ?_)
    have k3 := k1.trans k30
    intro s20 e4
    have k5 : sR s15 s20 := by rw [e4]; exact k3.i _ (by omega)
    exact h _ k5
  · refine sf_X2_addGlobal k1.2 (fun s21 k60 => ?_)
    have k6 := k1.trans k60
    intro s22 e7
    have k8 : sR s15 s22 := by rw [e7]; exact k6.i _ (by omega)
    exact h _ k8
theorem er_X6_readImport_0_10 {r16 : Int32} {r18 : Int32} {s17 : zS} {K : zS → Prop} {QX : zS → Prop} (hv : sV s17) (h : ∀ z, sR s17 z → K z) : ((r18 = (1 : Int32) →
                zCT zZC zmX2_addGlobal [.ref 2, .int r16, .int (1 : Int32)] s17 (zQv (fun s19 =>
                  ∀ s20 : zS, s20 = zsI s19 2 13 ((s19.1 2 13) + (1 : Int32)) →
                  zQv K none s20)) QX) ∧ (¬ r18 = (1 : Int32) →
                zCT zZC zmX2_addGlobal [.ref 2, .int r16, .int (0 : Int32)] s17 (zQv (fun s21 =>
                  ∀ s22 : zS, s22 = zsI s21 2 13 ((s21.1 2 13) + (1 : Int32)) →
                  zQv K none s22)) QX)) := by
  have k0 : sR s17 s17 := ⟨sK.rf, hv⟩
  refine ⟨fun c1 => ?_, fun c1 => ?_⟩
  · refine sf_X2_addGlobal k0.2 (fun s19 k20 => ?_)
    have k2 := k0.trans k20
    intro s20 e3
    have k4 : sR s17 s20 := by rw [e3]; exact k2.i _ (by omega)
    exact h _ k4
  · refine sf_X2_addGlobal k0.2 (fun s21 k50 => ?_)
    have k5 := k0.trans k50
    intro s22 e6
    have k7 : sR s17 s22 := by rw [e6]; exact k5.i _ (by omega)
    exact h _ k7
theorem er_X6_readImport_0_11 {s19 : zS} {K : zS → Prop} (hv : sV s19) (h : ∀ z, sR s19 z → K z) : ∀ s20 : zS, s20 = zsI s19 2 13 ((s19.1 2 13) + (1 : Int32)) →
                  zQv K none s20 := by
  have k0 : sR s19 s19 := ⟨sK.rf, hv⟩
  intro s20 e1
  have k2 : sR s19 s20 := by rw [e1]; exact k0.i _ (by omega)
  exact h _ k2
theorem er_X6_readImport_0_12 {s21 : zS} {K : zS → Prop} (hv : sV s21) (h : ∀ z, sR s21 z → K z) : ∀ s22 : zS, s22 = zsI s21 2 13 ((s21.1 2 13) + (1 : Int32)) →
                  zQv K none s22 := by
  have k0 : sR s21 s21 := ⟨sK.rf, hv⟩
  intro s22 e1
  have k2 : sR s21 s22 := by rw [e1]; exact k0.i _ (by omega)
  exact h _ k2
theorem er_X1_readBody_0_0 {a1 : Int32} {r2 : Int32} {s1 : zS} {K65 : Int32 → Int32 → Int32 → zS → Prop} {K : zS → Prop} {QX : zS → Prop} (hv : sV s1) (h : ∀ z, sR s1 z → K z) (hK0 : ∀ (z : zS), sR s1 z → K65 a1 r2 (0 : Int32) z) : zCT zZC zmX2_signatureOf [.ref 2, .long (((s1.1 2 9) + a1).toInt64)] s1 (zQi (fun r4 s3 =>
      ((0 ≤ r4 →
        zCT zZC zmX7_begin [.ref 7, .int r4] s3 (zQv (fun s5 =>
          zCT zZC zmX1_readGroups [.ref 4] s5 (zQv (fun s6 =>
            zCT zZC zmX0_beginBody [.ref 8, .int a1, .int (s6.1 7 3)] s6 (zQv (fun s7 =>
              K65 a1 r2 (0 : Int32) s7)) QX)) QX)) QX) ∧ (¬ 0 ≤ r4 →
        ((0 : Int32) = 0 ∨ (0 : Int32) = 1) ∧ ∀ s8 : zS, s8 = zsI s3 4 6 (0 : Int32) →
        zCT zZC zmX7_begin [.ref 7, .int r4] s8 (zQv (fun s9 =>
          zCT zZC zmX1_readGroups [.ref 4] s9 (zQv (fun s10 =>
            zCT zZC zmX0_beginBody [.ref 8, .int a1, .int (s10.1 7 3)] s10 (zQv (fun s11 =>
              K65 a1 r2 (0 : Int32) s11)) QX)) QX)) QX)))) QX := by
  have k0 : sR s1 s1 := ⟨sK.rf, hv⟩
  refine sf_X2_signatureOf k0.2 (fun r4 s3 k10 => ?_)
  have k1 := k0.trans k10
  refine ⟨fun c2 => ?_, fun c2 => ?_⟩
  · refine sf_X7_begin k1.2 (fun s5 k30 => ?_)
    have k3 := k1.trans k30
    refine sf_X1_readGroups k3.2 (fun s6 k40 => ?_)
    have k4 := k3.trans k40
    refine sf_X0_beginBody k4.2 (fun s7 k50 => ?_)
    have k5 := k4.trans k50
    exact hK0  _ k5
  · refine ⟨Or.inl rfl, ?_⟩
    intro s8 e6
    have k7 : sR s1 s8 := by rw [e6]; exact k1.i _ (by omega)
    refine sf_X7_begin k7.2 (fun s9 k80 => ?_)
    have k8 := k7.trans k80
    refine sf_X1_readGroups k8.2 (fun s10 k90 => ?_)
    have k9 := k8.trans k90
    refine sf_X0_beginBody k9.2 (fun s11 k100 => ?_)
    have k10 := k9.trans k100
    exact hK0  _ k10
theorem er_X1_readBody_0_1 {a1 : Int32} {r2 : Int32} {r4 : Int32} {s3 : zS} {K65 : Int32 → Int32 → Int32 → zS → Prop} {K : zS → Prop} {QX : zS → Prop} (hv : sV s3) (h : ∀ z, sR s3 z → K z) (hK0 : ∀ (z : zS), sR s3 z → K65 a1 r2 (0 : Int32) z) : ((0 ≤ r4 →
        zCT zZC zmX7_begin [.ref 7, .int r4] s3 (zQv (fun s5 =>
          zCT zZC zmX1_readGroups [.ref 4] s5 (zQv (fun s6 =>
            zCT zZC zmX0_beginBody [.ref 8, .int a1, .int (s6.1 7 3)] s6 (zQv (fun s7 =>
              K65 a1 r2 (0 : Int32) s7)) QX)) QX)) QX) ∧ (¬ 0 ≤ r4 →
        ((0 : Int32) = 0 ∨ (0 : Int32) = 1) ∧ ∀ s8 : zS, s8 = zsI s3 4 6 (0 : Int32) →
        zCT zZC zmX7_begin [.ref 7, .int r4] s8 (zQv (fun s9 =>
          zCT zZC zmX1_readGroups [.ref 4] s9 (zQv (fun s10 =>
            zCT zZC zmX0_beginBody [.ref 8, .int a1, .int (s10.1 7 3)] s10 (zQv (fun s11 =>
              K65 a1 r2 (0 : Int32) s11)) QX)) QX)) QX)) := by
  have k0 : sR s3 s3 := ⟨sK.rf, hv⟩
  refine ⟨fun c1 => ?_, fun c1 => ?_⟩
  · refine sf_X7_begin k0.2 (fun s5 k20 => ?_)
    have k2 := k0.trans k20
    refine sf_X1_readGroups k2.2 (fun s6 k30 => ?_)
    have k3 := k2.trans k30
    refine sf_X0_beginBody k3.2 (fun s7 k40 => ?_)
    have k4 := k3.trans k40
    exact hK0  _ k4
  · refine ⟨Or.inl rfl, ?_⟩
    intro s8 e5
    have k6 : sR s3 s8 := by rw [e5]; exact k0.i _ (by omega)
    refine sf_X7_begin k6.2 (fun s9 k70 => ?_)
    have k7 := k6.trans k70
    refine sf_X1_readGroups k7.2 (fun s10 k80 => ?_)
    have k8 := k7.trans k80
    refine sf_X0_beginBody k8.2 (fun s11 k90 => ?_)
    have k9 := k8.trans k90
    exact hK0  _ k9
theorem er_X1_readBody_0_2 {a1 : Int32} {r2 : Int32} {s5 : zS} {K65 : Int32 → Int32 → Int32 → zS → Prop} {K : zS → Prop} {QX : zS → Prop} (hv : sV s5) (h : ∀ z, sR s5 z → K z) (hK0 : ∀ (z : zS), sR s5 z → K65 a1 r2 (0 : Int32) z) : zCT zZC zmX1_readGroups [.ref 4] s5 (zQv (fun s6 =>
            zCT zZC zmX0_beginBody [.ref 8, .int a1, .int (s6.1 7 3)] s6 (zQv (fun s7 =>
              K65 a1 r2 (0 : Int32) s7)) QX)) QX := by
  have k0 : sR s5 s5 := ⟨sK.rf, hv⟩
  refine sf_X1_readGroups k0.2 (fun s6 k10 => ?_)
  have k1 := k0.trans k10
  refine sf_X0_beginBody k1.2 (fun s7 k20 => ?_)
  have k2 := k1.trans k20
  exact hK0  _ k2
theorem er_X1_readBody_0_3 {a1 : Int32} {r2 : Int32} {s6 : zS} {K65 : Int32 → Int32 → Int32 → zS → Prop} {K : zS → Prop} {QX : zS → Prop} (hv : sV s6) (h : ∀ z, sR s6 z → K z) (hK0 : ∀ (z : zS), sR s6 z → K65 a1 r2 (0 : Int32) z) : zCT zZC zmX0_beginBody [.ref 8, .int a1, .int (s6.1 7 3)] s6 (zQv (fun s7 =>
              K65 a1 r2 (0 : Int32) s7)) QX := by
  have k0 : sR s6 s6 := ⟨sK.rf, hv⟩
  refine sf_X0_beginBody k0.2 (fun s7 k10 => ?_)
  have k1 := k0.trans k10
  exact hK0  _ k1
theorem er_X1_readBody_0_4 {a1 : Int32} {r2 : Int32} {s7 : zS} {K65 : Int32 → Int32 → Int32 → zS → Prop} {K : zS → Prop} (hv : sV s7) (h : ∀ z, sR s7 z → K z) (hK0 : ∀ (z : zS), sR s7 z → K65 a1 r2 (0 : Int32) z) : K65 a1 r2 (0 : Int32) s7 := by
  have k0 : sR s7 s7 := ⟨sK.rf, hv⟩
  exact hK0  _ k0
theorem er_X1_readBody_0_5 {a1 : Int32} {r2 : Int32} {s9 : zS} {K65 : Int32 → Int32 → Int32 → zS → Prop} {K : zS → Prop} {QX : zS → Prop} (hv : sV s9) (h : ∀ z, sR s9 z → K z) (hK0 : ∀ (z : zS), sR s9 z → K65 a1 r2 (0 : Int32) z) : zCT zZC zmX1_readGroups [.ref 4] s9 (zQv (fun s10 =>
            zCT zZC zmX0_beginBody [.ref 8, .int a1, .int (s10.1 7 3)] s10 (zQv (fun s11 =>
              K65 a1 r2 (0 : Int32) s11)) QX)) QX := by
  have k0 : sR s9 s9 := ⟨sK.rf, hv⟩
  refine sf_X1_readGroups k0.2 (fun s10 k10 => ?_)
  have k1 := k0.trans k10
  refine sf_X0_beginBody k1.2 (fun s11 k20 => ?_)
  have k2 := k1.trans k20
  exact hK0  _ k2
theorem er_X1_readBody_0_6 {a1 : Int32} {r2 : Int32} {s10 : zS} {K65 : Int32 → Int32 → Int32 → zS → Prop} {K : zS → Prop} {QX : zS → Prop} (hv : sV s10) (h : ∀ z, sR s10 z → K z) (hK0 : ∀ (z : zS), sR s10 z → K65 a1 r2 (0 : Int32) z) : zCT zZC zmX0_beginBody [.ref 8, .int a1, .int (s10.1 7 3)] s10 (zQv (fun s11 =>
              K65 a1 r2 (0 : Int32) s11)) QX := by
  have k0 : sR s10 s10 := ⟨sK.rf, hv⟩
  refine sf_X0_beginBody k0.2 (fun s11 k10 => ?_)
  have k1 := k0.trans k10
  exact hK0  _ k1
theorem er_X1_readBody_0_7 {a1 : Int32} {r2 : Int32} {s11 : zS} {K65 : Int32 → Int32 → Int32 → zS → Prop} {K : zS → Prop} (hv : sV s11) (h : ∀ z, sR s11 z → K z) (hK0 : ∀ (z : zS), sR s11 z → K65 a1 r2 (0 : Int32) z) : K65 a1 r2 (0 : Int32) s11 := by
  have k0 : sR s11 s11 := ⟨sK.rf, hv⟩
  exact hK0  _ k0
theorem er_X1_readBody_65_0 {x2 : Int32} {s1 : zS} {K : zS → Prop} {QX : zS → Prop} (hv : sV s1) (h : ∀ z, sR s1 z → K z) : zCT zZC zmX4_leave [.ref 1, .int x2] s1 (zQv (fun s2 =>
        zQv K none s2)) QX := by
  have k0 : sR s1 s1 := ⟨sK.rf, hv⟩
  refine sf_X4_leave k0.2 (fun s2 k10 => ?_)
  have k1 := k0.trans k10
  exact h _ k1
theorem er_X1_readBody_65_1 {s2 : zS} {K : zS → Prop} (hv : sV s2) (h : ∀ z, sR s2 z → K z) : zQv K none s2 := by
  have k0 : sR s2 s2 := ⟨sK.rf, hv⟩
  exact h _ k0
theorem er_X1_readBody_65_2 {x2 : Int32} {s3 : zS} {K : zS → Prop} {QX : zS → Prop} (hv : sV s3) (h : ∀ z, sR s3 z → K z) : zCT zZC zmX4_leave [.ref 1, .int x2] s3 (zQv (fun s4 =>
          zQv K none s4)) QX := by
  have k0 : sR s3 s3 := ⟨sK.rf, hv⟩
  refine sf_X4_leave k0.2 (fun s4 k10 => ?_)
  have k1 := k0.trans k10
  exact h _ k1
theorem er_X1_readBody_65_3 {s4 : zS} {K : zS → Prop} (hv : sV s4) (h : ∀ z, sR s4 z → K z) : zQv K none s4 := by
  have k0 : sR s4 s4 := ⟨sK.rf, hv⟩
  exact h _ k0
theorem er_X1_readBody_65_4 {x1 : Int32} {x2 : Int32} {x4 : Int32} {s5 : zS} {K65 : Int32 → Int32 → Int32 → zS → Prop} {K : zS → Prop} (hv : sV s5) (h : ∀ z, sR s5 z → K z) (hK0 : ∀ (z : zS), sR s5 z → K65 x1 x2 (x4 + 1) z) : K65 x1 x2 (x4 + 1) s5 := by
  have k0 : sR s5 s5 := ⟨sK.rf, hv⟩
  exact hK0  _ k0
theorem er_X1_readBody_65_5 {x2 : Int32} {s6 : zS} {K : zS → Prop} {QX : zS → Prop} (hv : sV s6) (h : ∀ z, sR s6 z → K z) : zCT zZC zmX4_leave [.ref 1, .int x2] s6 (zQv (fun s7 =>
            zQv K none s7)) QX := by
  have k0 : sR s6 s6 := ⟨sK.rf, hv⟩
  refine sf_X4_leave k0.2 (fun s7 k10 => ?_)
  have k1 := k0.trans k10
  exact h _ k1
theorem er_X1_readBody_65_6 {s7 : zS} {K : zS → Prop} (hv : sV s7) (h : ∀ z, sR s7 z → K z) : zQv K none s7 := by
  have k0 : sR s7 s7 := ⟨sK.rf, hv⟩
  exact h _ k0
