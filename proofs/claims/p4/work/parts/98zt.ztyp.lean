/-! THE CLASS's typing: only the types' stack and its flag are written; a flag that is down stays down -/
def tzK (σ s : zS) : Prop := (∀ c i, ¬ (c = 24 ∨ c = 25 ∨ (c = 5 ∧ (i = 6 ∨ i = 7))) → s.1 c i = σ.1 c i ∧ s.2 c i = σ.2 c i) ∧ (σ.1 5 7 = 0 → s.1 5 7 = 0)
def tzR (σ s : zS) : Prop := tzK σ s ∧ sV s
theorem tzK.rf {σ : zS} : tzK σ σ := ⟨fun _ _ _ => ⟨rfl, rfl⟩, fun h => h⟩
theorem tzR.trans {σ s u : zS} (h : tzR σ s) (h2 : tzR s u) : tzR σ u := ⟨⟨fun c i a => ⟨(h2.1.1 c i a).1.trans (h.1.1 c i a).1, (h2.1.1 c i a).2.trans (h.1.1 c i a).2⟩, fun z => h2.1.2 (h.1.2 z)⟩, h2.2⟩
theorem tzR.i {σ s : zS} (h : tzR σ s) {c j : Nat} (x : Int32) (hc : c = 24 ∨ c = 25 ∨ (c = 5 ∧ j = 6)) : tzR σ (zsI s c j x) :=
  ⟨⟨fun a i ha => ⟨by rw [zI1, if_neg (by omega)]; exact (h.1.1 a i ha).1, (h.1.1 a i ha).2⟩, fun z => by rw [zI1, if_neg (by omega)]; exact h.1.2 z⟩, ((⟨sK.rf, h.2⟩ : sR s s) |> fun q => (sR.i q x (by omega)).2)⟩
theorem tzR.s7 {s : zS} (h : sV s) (x : Int32) (hx : x = 0 ∨ x = 1) : sV (zsI s 5 7 x) := (sR.r ⟨sK.rf, h⟩ x hx).2
theorem tzR.z {σ s : zS} (h : tzR σ s) : tzR σ (zsI s 5 7 0) :=
  ⟨⟨fun a i ha => ⟨by rw [zI1, if_neg (by omega)]; exact (h.1.1 a i ha).1, (h.1.1 a i ha).2⟩, fun _ => by rw [zI1, if_pos ⟨rfl, rfl⟩]⟩, tzR.s7 h.2 _ (Or.inl rfl)⟩
theorem tzR.o {σ s : zS} (h : tzR σ s) (x : Int32) (hs : ¬ s.1 5 7 = 0) : tzR σ (zsI s 5 7 1) :=
  ⟨⟨fun a i ha => ⟨by rw [zI1, if_neg (by omega)]; exact (h.1.1 a i ha).1, (h.1.1 a i ha).2⟩, fun z => absurd (h.1.2 z) hs⟩, tzR.s7 h.2 _ (Or.inr rfl)⟩
theorem zf_X3_take {σ : zS} {a1 : Int32} {K : Int32 → zS → Prop} {QX : zS → Prop} (hv : sV σ) (h : ∀ r s, tzR σ s → K r s) : zCT zZC zmX3_take [.ref 5, .int a1] σ (zQi K) QX := by
  refine rX3_take ?_
  unfold PX3_take_0
  have k0 : tzR σ σ := ⟨tzK.rf, hv⟩
  refine ⟨fun c1 => ?_, fun c1 => ?_⟩
  · exact h _ _ k0
  · refine ⟨fun c2 => ?_, fun c2 => ?_⟩
    · exact h _ _ k0
    · refine ⟨fun c3 => ?_, fun c3 => ?_⟩
      · refine ⟨(vp_lh (vl_1 c2) (vh_2 c3) (by decide)), ?_⟩
        refine ⟨fun c4 => ?_, fun c4 => ?_⟩
        · unfold PX3_take_64
          refine ⟨fun c6 => ?_, fun c6 => ?_⟩
          · refine ⟨Or.inl rfl, ?_⟩
            intro s1_5 e7
            have k8 : tzR σ s1_5 := by rw [e7]; exact k0.z
            exact h _ _ k8
          · refine ⟨(vp_lh (vl_1 c2) (vh_2 c3) (by decide)), ?_⟩
            refine ⟨fun c9 => ?_, fun c9 => ?_⟩
            · refine ⟨Or.inl rfl, ?_⟩
              intro s2_5 e10
              have k11 : tzR σ s2_5 := by rw [e10]; exact k0.z
              exact h _ _ k11
            · refine ⟨Or.inr rfl, ?_⟩
              intro s3_5 e12
              have k13 : tzR σ s3_5 := by rw [e12]; exact k0.o 0 c6
              exact h _ _ k13
        · refine ⟨fun c14 => ?_, fun c14 => ?_⟩
          · unfold PX3_take_64
            refine ⟨fun c16 => ?_, fun c16 => ?_⟩
            · refine ⟨Or.inl rfl, ?_⟩
              intro s1_15 e17
              have k18 : tzR σ s1_15 := by rw [e17]; exact k0.z
              exact h _ _ k18
            · refine ⟨(vp_lh (vl_1 c2) (vh_2 c3) (by decide)), ?_⟩
              refine ⟨fun c19 => ?_, fun c19 => ?_⟩
              · refine ⟨Or.inl rfl, ?_⟩
                intro s2_15 e20
                have k21 : tzR σ s2_15 := by rw [e20]; exact k0.z
                exact h _ _ k21
              · refine ⟨Or.inr rfl, ?_⟩
                intro s3_15 e22
                have k23 : tzR σ s3_15 := by rw [e22]; exact k0.o 0 c16
                exact h _ _ k23
          · refine ⟨fun c24 => ?_, fun c24 => ?_⟩
            · intro s1 e25
              have k26 : tzR σ s1 := by rw [e25]; exact k0.i _ (by omega)
              refine ⟨(by rw [e25, zI1, if_pos ⟨rfl, rfl⟩]; exact (vp_m1 c14 c24 (by decide))), ?_⟩
              refine ⟨fun c27 => ?_, fun c27 => ?_⟩
              · refine ⟨Or.inl rfl, ?_⟩
                intro s2 e28
                have k29 : tzR σ s2 := by rw [e28]; exact k26.z
                exact h _ _ k29
              · refine ⟨fun c30 => ?_, fun c30 => ?_⟩
                · refine ⟨Or.inr rfl, ?_⟩
                  intro s3 e31
                  have k32 : tzR σ s3 := by rw [e31]; exact k26.o 0 c27
                  exact h _ _ k32
                · refine ⟨fun c33 => ?_, fun c33 => ?_⟩
                  · refine ⟨Or.inr rfl, ?_⟩
                    intro s4 e34
                    have k35 : tzR σ s4 := by rw [e34]; exact k26.o 0 c27
                    exact h _ _ k35
                  · refine ⟨fun c36 => ?_, fun c36 => ?_⟩
                    · refine ⟨Or.inr rfl, ?_⟩
                      intro s5 e37
                      have k38 : tzR σ s5 := by rw [e37]; exact k26.o 0 c27
                      exact h _ _ k38
                    · refine ⟨Or.inl rfl, ?_⟩
                      intro s6 e39
                      have k40 : tzR σ s6 := by rw [e39]; exact k26.z
                      exact h _ _ k40
            · unfold PX3_take_64
              refine ⟨fun c42 => ?_, fun c42 => ?_⟩
              · refine ⟨Or.inl rfl, ?_⟩
                intro s1_41 e43
                have k44 : tzR σ s1_41 := by rw [e43]; exact k0.z
                exact h _ _ k44
              · refine ⟨(vp_lh (vl_1 c2) (vh_2 c3) (by decide)), ?_⟩
                refine ⟨fun c45 => ?_, fun c45 => ?_⟩
                · refine ⟨Or.inl rfl, ?_⟩
                  intro s2_41 e46
                  have k47 : tzR σ s2_41 := by rw [e46]; exact k0.z
                  exact h _ _ k47
                · refine ⟨Or.inr rfl, ?_⟩
                  intro s3_41 e48
                  have k49 : tzR σ s3_41 := by rw [e48]; exact k0.o 0 c42
                  exact h _ _ k49
      · exact h _ _ k0
theorem zf_X3_leave {σ : zS} {a1 : Int32} {K : zS → Prop} {QX : zS → Prop} (hv : sV σ) (h : ∀ s, tzR σ s → K s) : zCT zZC zmX3_leave [.ref 5, .int a1] σ (zQv K) QX := by
  refine rX3_leave ?_
  unfold PX3_leave_0
  have k0 : tzR σ σ := ⟨tzK.rf, hv⟩
  refine ⟨fun c1 => ?_, fun c1 => ?_⟩
  · exact h _ k0
  · refine ⟨fun c2 => ?_, fun c2 => ?_⟩
    · exact h _ k0
    · refine ⟨fun c3 => ?_, fun c3 => ?_⟩
      · exact h _ k0
      · refine ⟨(vp_lh (vl_1 c2) (vh_1 c3) (by decide)), ?_⟩
        intro s1 e4
        have k5 : tzR σ s1 := by rw [e4]; exact k0.i _ (by omega)
        intro s2 e6
        have k7 : tzR σ s2 := by rw [e6]; exact k5.i _ (by omega)
        exact h _ k7
theorem zf_X3_forget {σ : zS} {K : zS → Prop} {QX : zS → Prop} (hv : sV σ) (h : ∀ s, tzR σ s → K s) : zCT zZC zmX3_forget [.ref 5] σ (zQv K) QX := by
  refine rX3_forget ?_
  unfold PX3_forget_0
  have k0 : tzR σ σ := ⟨tzK.rf, hv⟩
  refine ⟨fun c1 => ?_, fun c1 => ?_⟩
  · exact h _ k0
  · refine ⟨fun c2 => ?_, fun c2 => ?_⟩
    · exact h _ k0
    · refine ⟨(vp_lh (vl_1 c1) (vh_1 c2) (by decide)), ?_⟩
      intro s1 e3
      have k4 : tzR σ s1 := by rw [e3]; exact k0.i _ (by omega)
      refine ⟨(by rw [e3, zI1, if_neg (by omega)]; exact (vp_lh (vl_1 c1) (vh_1 c2) (by decide))), ?_⟩
      intro s2 e5
      have k6 : tzR σ s2 := by rw [e5]; exact k4.i _ (by omega)
      exact h _ k6
theorem zf_X3_demand {σ : zS} {a1 : Int32} {K : zS → Prop} {QX : zS → Prop} (hv : sV σ) (h : ∀ s, tzR σ s → K s) : zCT zZC zmX3_demand [.ref 5, .int a1] σ (zQv K) QX := by
  refine rX3_demand ?_
  unfold PX3_demand_0
  have k0 : tzR σ σ := ⟨tzK.rf, hv⟩
  refine ⟨fun c1 => ?_, fun c1 => ?_⟩
  · refine ⟨Or.inl rfl, ?_⟩
    intro s1 e2
    have k3 : tzR σ s1 := by rw [e2]; exact k0.z
    exact h _ k3
  · exact h _ k0
theorem zf_X3_labelType {σ : zS} {a1 : Int64} {K : Int32 → zS → Prop} {QX : zS → Prop} (hv : sV σ) (h : ∀ r s, tzR σ s → K r s) : zCT zZC zmX3_labelType [.ref 5, .long a1] σ (zQi K) QX := by
  refine rX3_labelType ?_
  unfold PX3_labelType_0
  have k0 : tzR σ σ := ⟨tzK.rf, hv⟩
  refine ⟨fun c1 => ?_, fun c1 => ?_⟩
  · refine ⟨fun c2 => ?_, fun c2 => ?_⟩
    · refine ⟨Or.inl rfl, ?_⟩
      intro s1 e3
      have k4 : tzR σ s1 := by rw [e3]; exact k0.z
      exact h _ _ k4
    · exact absurd (by decide) c2
  · refine ⟨fun c5 => ?_, fun c5 => ?_⟩
    · refine ⟨fun c6 => ?_, fun c6 => ?_⟩
      · refine ⟨Or.inl rfl, ?_⟩
        intro s3 e7
        have k8 : tzR σ s3 := by rw [e7]; exact k0.z
        exact h _ _ k8
      · exact absurd (by decide) c6
    · refine ⟨fun c9 => ?_, fun c9 => ?_⟩
      · refine ⟨Or.inl rfl, ?_⟩
        intro s5 e10
        have k11 : tzR σ s5 := by rw [e10]; exact k0.z
        exact h _ _ k11
      · refine ⟨fun c12 => ?_, fun c12 => ?_⟩
        · refine ⟨(vp_lh (vl_1 c9) (vh_2 c12) (by decide)), ?_⟩
          refine ⟨fun c13 => ?_, fun c13 => ?_⟩
          · exact h _ _ k0
          · refine ⟨(vp_lh (vl_1 c9) (vh_2 c12) (by decide)), ?_⟩
            exact h _ _ k0
        · refine ⟨Or.inl rfl, ?_⟩
          intro s6 e14
          have k15 : tzR σ s6 := by rw [e14]; exact k0.z
          exact h _ _ k15
theorem zf_X3_isEmpty {σ : zS} {K : Int32 → zS → Prop} {QX : zS → Prop} (hv : sV σ) (h : ∀ r s, (r = 0 ∨ r = 1) → tzR σ s → K r s) : zCT zZC zmX3_isEmpty [.ref 5] σ (zQi K) QX := by
  refine rX3_isEmpty ?_
  unfold PX3_isEmpty_0
  have k0 : tzR σ σ := ⟨tzK.rf, hv⟩
  refine ⟨fun c1 => ?_, fun c1 => ?_⟩
  · refine ⟨Or.inl rfl, ?_⟩
    exact h _ _ (Or.inl rfl) k0
  · refine ⟨fun c2 => ?_, fun c2 => ?_⟩
    · refine ⟨Or.inl rfl, ?_⟩
      exact h _ _ (Or.inl rfl) k0
    · refine ⟨(vp_lh (vl_1 c1) (vh_1 c2) (by decide)), ?_⟩
      refine ⟨fun c3 => ?_, fun c3 => ?_⟩
      · refine ⟨Or.inr rfl, ?_⟩
        exact h _ _ (Or.inr rfl) k0
      · refine ⟨Or.inl rfl, ?_⟩
        exact h _ _ (Or.inl rfl) k0
theorem zf_X3_result {σ : zS} {K : Int32 → zS → Prop} {QX : zS → Prop} (hv : sV σ) (h : ∀ r s, tzR σ s → K r s) : zCT zZC zmX3_result [.ref 5] σ (zQi K) QX := by
  refine rX3_result ?_
  unfold PX3_result_0
  have k0 : tzR σ σ := ⟨tzK.rf, hv⟩
  refine ⟨fun c1 => ?_, fun c1 => ?_⟩
  · exact h _ _ k0
  · refine ⟨fun c2 => ?_, fun c2 => ?_⟩
    · exact h _ _ k0
    · refine ⟨(vp_lh (vl_1 c1) (vh_1 c2) (by decide)), ?_⟩
      exact h _ _ k0
theorem zf_X3_bodyResult {σ : zS} {K : Int32 → zS → Prop} {QX : zS → Prop} (hv : sV σ) (h : ∀ r s, tzR σ s → K r s) : zCT zZC zmX3_bodyResult [.ref 5] σ (zQi K) QX := by
  refine rX3_bodyResult ?_
  unfold PX3_bodyResult_0
  have k0 : tzR σ σ := ⟨tzK.rf, hv⟩
  refine ⟨(by unfold vp_in; decide), ?_⟩
  exact h _ _ k0
theorem zf_X3_openedBy {σ : zS} {K : Int32 → zS → Prop} {QX : zS → Prop} (hv : sV σ) (h : ∀ r s, tzR σ s → K r s) : zCT zZC zmX3_openedBy [.ref 5] σ (zQi K) QX := by
  refine rX3_openedBy ?_
  unfold PX3_openedBy_0
  have k0 : tzR σ σ := ⟨tzK.rf, hv⟩
  refine ⟨fun c1 => ?_, fun c1 => ?_⟩
  · exact h _ _ k0
  · refine ⟨fun c2 => ?_, fun c2 => ?_⟩
    · exact h _ _ k0
    · refine ⟨(vp_lh (vl_1 c1) (vh_1 c2) (by decide)), ?_⟩
      exact h _ _ k0
theorem zf_X2_signatureOf {σ : zS} {a1 : Int64} {K : Int32 → zS → Prop} {QX : zS → Prop} (hv : sV σ) (h : ∀ r s, tzR σ s → K r s) : zCT zZC zmX2_signatureOf [.ref 2, .long a1] σ (zQi K) QX := by
  refine rX2_signatureOf ?_
  unfold PX2_signatureOf_0
  have k0 : tzR σ σ := ⟨tzK.rf, hv⟩
  refine ⟨fun c1 => ?_, fun c1 => ?_⟩
  · exact h _ _ k0
  · refine ⟨fun c2 => ?_, fun c2 => ?_⟩
    · exact h _ _ k0
    · refine ⟨fun c3 => ?_, fun c3 => ?_⟩
      · refine ⟨(vp_i64 c1 c3 (by decide)), ?_⟩
        exact h _ _ k0
      · exact h _ _ k0
theorem zf_X2_parameterCount {σ : zS} {a1 : Int32} {K : Int32 → zS → Prop} {QX : zS → Prop} (hv : sV σ) (h : ∀ r s, tzR σ s → K r s) : zCT zZC zmX2_parameterCount [.ref 2, .int a1] σ (zQi K) QX := by
  refine rX2_parameterCount ?_
  unfold PX2_parameterCount_0
  have k0 : tzR σ σ := ⟨tzK.rf, hv⟩
  refine ⟨fun c1 => ?_, fun c1 => ?_⟩
  · exact h _ _ k0
  · refine ⟨fun c2 => ?_, fun c2 => ?_⟩
    · exact h _ _ k0
    · refine ⟨(vp_lh (vl_1 c1) (vh_1 c2) (by decide)), ?_⟩
      exact h _ _ k0
theorem zf_X2_parameter {σ : zS} {a1 : Int32} {a2 : Int32} {K : Int32 → zS → Prop} {QX : zS → Prop} (hv : sV σ) (h : ∀ r s, tzR σ s → K r s) : zCT zZC zmX2_parameter [.ref 2, .int a1, .int a2] σ (zQi K) QX := by
  refine rX2_parameter ?_
  unfold PX2_parameter_0
  have k0 : tzR σ σ := ⟨tzK.rf, hv⟩
  refine ⟨fun c1 => ?_, fun c1 => ?_⟩
  · exact h _ _ k0
  · refine ⟨fun c2 => ?_, fun c2 => ?_⟩
    · exact h _ _ k0
    · refine ⟨(vp_lh (vl_1 c1) (vh_1 c2) (by decide)), ?_⟩
      exact h _ _ k0
theorem zf_X2_resultOf {σ : zS} {a1 : Int32} {K : Int32 → zS → Prop} {QX : zS → Prop} (hv : sV σ) (h : ∀ r s, tzR σ s → K r s) : zCT zZC zmX2_resultOf [.ref 2, .int a1] σ (zQi K) QX := by
  refine rX2_resultOf ?_
  unfold PX2_resultOf_0
  have k0 : tzR σ σ := ⟨tzK.rf, hv⟩
  refine ⟨fun c1 => ?_, fun c1 => ?_⟩
  · exact h _ _ k0
  · refine ⟨fun c2 => ?_, fun c2 => ?_⟩
    · exact h _ _ k0
    · refine ⟨(vp_lh (vl_1 c1) (vh_1 c2) (by decide)), ?_⟩
      exact h _ _ k0
theorem zf_X2_typeOfGlobal {σ : zS} {a1 : Int32} {K : Int32 → zS → Prop} {QX : zS → Prop} (hv : sV σ) (h : ∀ r s, tzR σ s → K r s) : zCT zZC zmX2_typeOfGlobal [.ref 2, .int a1] σ (zQi K) QX := by
  refine rX2_typeOfGlobal ?_
  unfold PX2_typeOfGlobal_0
  have k0 : tzR σ σ := ⟨tzK.rf, hv⟩
  refine ⟨fun c1 => ?_, fun c1 => ?_⟩
  · exact h _ _ k0
  · refine ⟨fun c2 => ?_, fun c2 => ?_⟩
    · exact h _ _ k0
    · refine ⟨(vp_lh (vl_1 c1) (vh_1 c2) (by decide)), ?_⟩
      exact h _ _ k0
theorem zf_X2_changesGlobal {σ : zS} {a1 : Int32} {K : Int32 → zS → Prop} {QX : zS → Prop} (hv : sV σ) (h : ∀ r s, (r = 0 ∨ r = 1) → tzR σ s → K r s) : zCT zZC zmX2_changesGlobal [.ref 2, .int a1] σ (zQi K) QX := by
  refine rX2_changesGlobal ?_
  unfold PX2_changesGlobal_0
  have k0 : tzR σ σ := ⟨tzK.rf, hv⟩
  refine ⟨fun c1 => ?_, fun c1 => ?_⟩
  · refine ⟨Or.inl rfl, ?_⟩
    exact h _ _ (Or.inl rfl) k0
  · refine ⟨fun c2 => ?_, fun c2 => ?_⟩
    · refine ⟨Or.inl rfl, ?_⟩
      exact h _ _ (Or.inl rfl) k0
    · refine ⟨(vp_lh (vl_1 c1) (vh_1 c2) (by decide)), ?_⟩
      refine ⟨fun c3 => ?_, fun c3 => ?_⟩
      · refine ⟨Or.inl rfl, ?_⟩
        exact h _ _ (Or.inl rfl) k0
      · refine ⟨Or.inr rfl, ?_⟩
        exact h _ _ (Or.inr rfl) k0
theorem zf_X7_takesLong {σ : zS} {a1 : Int32} {K : Int32 → zS → Prop} {QX : zS → Prop} (hv : sV σ) (h : ∀ r s, (r = 0 ∨ r = 1) → tzR σ s → K r s) : zCT zZC zmX7_takesLong [.int a1] σ (zQi K) QX := by
  refine rX7_takesLong ?_
  unfold PX7_takesLong_0
  have k0 : tzR σ σ := ⟨tzK.rf, hv⟩
  refine ⟨fun c1 => ?_, fun c1 => ?_⟩
  · refine ⟨fun c2 => ?_, fun c2 => ?_⟩
    · refine ⟨fun c3 => ?_, fun c3 => ?_⟩
      · refine ⟨Or.inr rfl, ?_⟩
        exact h _ _ (Or.inr rfl) k0
      · refine ⟨fun c4 => ?_, fun c4 => ?_⟩
        · refine ⟨Or.inl rfl, ?_⟩
          exact h _ _ (Or.inl rfl) k0
        · refine ⟨Or.inr rfl, ?_⟩
          exact h _ _ (Or.inr rfl) k0
    · refine ⟨fun c5 => ?_, fun c5 => ?_⟩
      · refine ⟨Or.inr rfl, ?_⟩
        exact h _ _ (Or.inr rfl) k0
      · refine ⟨fun c6 => ?_, fun c6 => ?_⟩
        · refine ⟨Or.inr rfl, ?_⟩
          exact h _ _ (Or.inr rfl) k0
        · refine ⟨fun c7 => ?_, fun c7 => ?_⟩
          · refine ⟨Or.inl rfl, ?_⟩
            exact h _ _ (Or.inl rfl) k0
          · refine ⟨Or.inr rfl, ?_⟩
            exact h _ _ (Or.inr rfl) k0
  · refine ⟨fun c8 => ?_, fun c8 => ?_⟩
    · refine ⟨Or.inr rfl, ?_⟩
      exact h _ _ (Or.inr rfl) k0
    · refine ⟨fun c9 => ?_, fun c9 => ?_⟩
      · refine ⟨fun c10 => ?_, fun c10 => ?_⟩
        · refine ⟨Or.inr rfl, ?_⟩
          exact h _ _ (Or.inr rfl) k0
        · refine ⟨fun c11 => ?_, fun c11 => ?_⟩
          · refine ⟨Or.inl rfl, ?_⟩
            exact h _ _ (Or.inl rfl) k0
          · refine ⟨Or.inr rfl, ?_⟩
            exact h _ _ (Or.inr rfl) k0
      · refine ⟨fun c12 => ?_, fun c12 => ?_⟩
        · refine ⟨Or.inr rfl, ?_⟩
          exact h _ _ (Or.inr rfl) k0
        · refine ⟨fun c13 => ?_, fun c13 => ?_⟩
          · refine ⟨Or.inr rfl, ?_⟩
            exact h _ _ (Or.inr rfl) k0
          · refine ⟨fun c14 => ?_, fun c14 => ?_⟩
            · refine ⟨Or.inl rfl, ?_⟩
              exact h _ _ (Or.inl rfl) k0
            · refine ⟨Or.inr rfl, ?_⟩
              exact h _ _ (Or.inr rfl) k0
theorem zf_X7_takesTwo {σ : zS} {a1 : Int32} {K : Int32 → zS → Prop} {QX : zS → Prop} (hv : sV σ) (h : ∀ r s, (r = 0 ∨ r = 1) → tzR σ s → K r s) : zCT zZC zmX7_takesTwo [.int a1] σ (zQi K) QX := by
  refine rX7_takesTwo ?_
  unfold PX7_takesTwo_0
  have k0 : tzR σ σ := ⟨tzK.rf, hv⟩
  refine ⟨fun c1 => ?_, fun c1 => ?_⟩
  · unfold PX7_takesTwo_12
    refine ⟨fun c3 => ?_, fun c3 => ?_⟩
    · unfold PX7_takesTwo_24
      refine ⟨fun c5 => ?_, fun c5 => ?_⟩
      · unfold PX7_takesTwo_36
        refine ⟨fun c7 => ?_, fun c7 => ?_⟩
        · refine ⟨Or.inl rfl, ?_⟩
          exact h _ _ (Or.inl rfl) k0
        · refine ⟨fun c8 => ?_, fun c8 => ?_⟩
          · refine ⟨Or.inl rfl, ?_⟩
            exact h _ _ (Or.inl rfl) k0
          · refine ⟨Or.inr rfl, ?_⟩
            exact h _ _ (Or.inr rfl) k0
      · refine ⟨fun c9 => ?_, fun c9 => ?_⟩
        · refine ⟨Or.inr rfl, ?_⟩
          exact h _ _ (Or.inr rfl) k0
        · unfold PX7_takesTwo_36
          refine ⟨fun c11 => ?_, fun c11 => ?_⟩
          · refine ⟨Or.inl rfl, ?_⟩
            exact h _ _ (Or.inl rfl) k0
          · refine ⟨fun c12 => ?_, fun c12 => ?_⟩
            · refine ⟨Or.inl rfl, ?_⟩
              exact h _ _ (Or.inl rfl) k0
            · refine ⟨Or.inr rfl, ?_⟩
              exact h _ _ (Or.inr rfl) k0
    · refine ⟨fun c13 => ?_, fun c13 => ?_⟩
      · refine ⟨Or.inr rfl, ?_⟩
        exact h _ _ (Or.inr rfl) k0
      · unfold PX7_takesTwo_24
        refine ⟨fun c15 => ?_, fun c15 => ?_⟩
        · unfold PX7_takesTwo_36
          refine ⟨fun c17 => ?_, fun c17 => ?_⟩
          · refine ⟨Or.inl rfl, ?_⟩
            exact h _ _ (Or.inl rfl) k0
          · refine ⟨fun c18 => ?_, fun c18 => ?_⟩
            · refine ⟨Or.inl rfl, ?_⟩
              exact h _ _ (Or.inl rfl) k0
            · refine ⟨Or.inr rfl, ?_⟩
              exact h _ _ (Or.inr rfl) k0
        · refine ⟨fun c19 => ?_, fun c19 => ?_⟩
          · refine ⟨Or.inr rfl, ?_⟩
            exact h _ _ (Or.inr rfl) k0
          · unfold PX7_takesTwo_36
            refine ⟨fun c21 => ?_, fun c21 => ?_⟩
            · refine ⟨Or.inl rfl, ?_⟩
              exact h _ _ (Or.inl rfl) k0
            · refine ⟨fun c22 => ?_, fun c22 => ?_⟩
              · refine ⟨Or.inl rfl, ?_⟩
                exact h _ _ (Or.inl rfl) k0
              · refine ⟨Or.inr rfl, ?_⟩
                exact h _ _ (Or.inr rfl) k0
  · refine ⟨fun c23 => ?_, fun c23 => ?_⟩
    · refine ⟨Or.inr rfl, ?_⟩
      exact h _ _ (Or.inr rfl) k0
    · unfold PX7_takesTwo_12
      refine ⟨fun c25 => ?_, fun c25 => ?_⟩
      · unfold PX7_takesTwo_24
        refine ⟨fun c27 => ?_, fun c27 => ?_⟩
        · unfold PX7_takesTwo_36
          refine ⟨fun c29 => ?_, fun c29 => ?_⟩
          · refine ⟨Or.inl rfl, ?_⟩
            exact h _ _ (Or.inl rfl) k0
          · refine ⟨fun c30 => ?_, fun c30 => ?_⟩
            · refine ⟨Or.inl rfl, ?_⟩
              exact h _ _ (Or.inl rfl) k0
            · refine ⟨Or.inr rfl, ?_⟩
              exact h _ _ (Or.inr rfl) k0
        · refine ⟨fun c31 => ?_, fun c31 => ?_⟩
          · refine ⟨Or.inr rfl, ?_⟩
            exact h _ _ (Or.inr rfl) k0
          · unfold PX7_takesTwo_36
            refine ⟨fun c33 => ?_, fun c33 => ?_⟩
            · refine ⟨Or.inl rfl, ?_⟩
              exact h _ _ (Or.inl rfl) k0
            · refine ⟨fun c34 => ?_, fun c34 => ?_⟩
              · refine ⟨Or.inl rfl, ?_⟩
                exact h _ _ (Or.inl rfl) k0
              · refine ⟨Or.inr rfl, ?_⟩
                exact h _ _ (Or.inr rfl) k0
      · refine ⟨fun c35 => ?_, fun c35 => ?_⟩
        · refine ⟨Or.inr rfl, ?_⟩
          exact h _ _ (Or.inr rfl) k0
        · unfold PX7_takesTwo_24
          refine ⟨fun c37 => ?_, fun c37 => ?_⟩
          · unfold PX7_takesTwo_36
            refine ⟨fun c39 => ?_, fun c39 => ?_⟩
            · refine ⟨Or.inl rfl, ?_⟩
              exact h _ _ (Or.inl rfl) k0
            · refine ⟨fun c40 => ?_, fun c40 => ?_⟩
              · refine ⟨Or.inl rfl, ?_⟩
                exact h _ _ (Or.inl rfl) k0
              · refine ⟨Or.inr rfl, ?_⟩
                exact h _ _ (Or.inr rfl) k0
          · refine ⟨fun c41 => ?_, fun c41 => ?_⟩
            · refine ⟨Or.inr rfl, ?_⟩
              exact h _ _ (Or.inr rfl) k0
            · unfold PX7_takesTwo_36
              refine ⟨fun c43 => ?_, fun c43 => ?_⟩
              · refine ⟨Or.inl rfl, ?_⟩
                exact h _ _ (Or.inl rfl) k0
              · refine ⟨fun c44 => ?_, fun c44 => ?_⟩
                · refine ⟨Or.inl rfl, ?_⟩
                  exact h _ _ (Or.inl rfl) k0
                · refine ⟨Or.inr rfl, ?_⟩
                  exact h _ _ (Or.inr rfl) k0
theorem zf_X7_leavesLong {σ : zS} {a1 : Int32} {K : Int32 → zS → Prop} {QX : zS → Prop} (hv : sV σ) (h : ∀ r s, (r = 0 ∨ r = 1) → tzR σ s → K r s) : zCT zZC zmX7_leavesLong [.int a1] σ (zQi K) QX := by
  refine rX7_leavesLong ?_
  unfold PX7_leavesLong_0
  have k0 : tzR σ σ := ⟨tzK.rf, hv⟩
  refine ⟨fun c1 => ?_, fun c1 => ?_⟩
  · refine ⟨fun c2 => ?_, fun c2 => ?_⟩
    · refine ⟨Or.inr rfl, ?_⟩
      exact h _ _ (Or.inr rfl) k0
    · refine ⟨fun c3 => ?_, fun c3 => ?_⟩
      · refine ⟨Or.inr rfl, ?_⟩
        exact h _ _ (Or.inr rfl) k0
      · refine ⟨fun c4 => ?_, fun c4 => ?_⟩
        · refine ⟨Or.inl rfl, ?_⟩
          exact h _ _ (Or.inl rfl) k0
        · refine ⟨Or.inr rfl, ?_⟩
          exact h _ _ (Or.inr rfl) k0
  · refine ⟨fun c5 => ?_, fun c5 => ?_⟩
    · refine ⟨Or.inr rfl, ?_⟩
      exact h _ _ (Or.inr rfl) k0
    · refine ⟨fun c6 => ?_, fun c6 => ?_⟩
      · refine ⟨Or.inr rfl, ?_⟩
        exact h _ _ (Or.inr rfl) k0
      · refine ⟨fun c7 => ?_, fun c7 => ?_⟩
        · refine ⟨Or.inr rfl, ?_⟩
          exact h _ _ (Or.inr rfl) k0
        · refine ⟨fun c8 => ?_, fun c8 => ?_⟩
          · refine ⟨Or.inl rfl, ?_⟩
            exact h _ _ (Or.inl rfl) k0
          · refine ⟨Or.inr rfl, ?_⟩
            exact h _ _ (Or.inr rfl) k0
theorem zf_X7_followFrame {σ : zS} {a1 : Int32} {K : zS → Prop} {QX : zS → Prop} (hv : sV σ) (h : ∀ s, tzR σ s → K s) : zCT zZC zmX7_followFrame [.ref 7, .int a1] σ (zQv K) QX := by
  refine rX7_followFrame ?_
  unfold PX7_followFrame_0
  have k0 : tzR σ σ := ⟨tzK.rf, hv⟩
  refine ⟨fun c1 => ?_, fun c1 => ?_⟩
  · refine zf_X3_forget k0.2 (fun s1 k20 => ?_)
    have k2 := k0.trans k20
    exact h _ k2
  · refine ⟨fun c3 => ?_, fun c3 => ?_⟩
    · refine zf_X3_take k0.2 (fun r3 s2 k40 => ?_)
      have k4 := k0.trans k40
      exact h _ k4
    · refine ⟨fun c5 => ?_, fun c5 => ?_⟩
      · unfold PX7_followFrame_43
        refine ⟨fun c7 => ?_, fun c7 => ?_⟩
        · refine zf_X3_openedBy k0.2 (fun r2_6 s1_6 k80 => ?_)
          have k8 := k0.trans k80
          refine ⟨fun c9 => ?_, fun c9 => ?_⟩
          · refine ⟨fun c10 => ?_, fun c10 => ?_⟩
            · exact absurd c10 (by decide)
            · refine zf_X3_result k8.2 (fun r12_6 s11_6 k110 => ?_)
              have k11 := k8.trans k110
              refine ⟨fun c12 => ?_, fun c12 => ?_⟩
              · refine zf_X3_demand k11.2 (fun s13_6 k130 => ?_)
                have k13 := k11.trans k130
                refine zf_X3_result k13.2 (fun r15_6 s14_6 k140 => ?_)
                have k14 := k13.trans k140
                refine zf_X3_take k14.2 (fun r17_6 s16_6 k150 => ?_)
                have k15 := k14.trans k150
                refine zf_X3_isEmpty k15.2 (fun r19_6 s18_6 b17 k160 => ?_)
                have k16 := k15.trans k160
                refine zf_X3_demand k16.2 (fun s20_6 k180 => ?_)
                have k18 := k16.trans k180
                exact h _ k18
              · refine zf_X3_demand k11.2 (fun s21_6 k190 => ?_)
                have k19 := k11.trans k190
                refine zf_X3_result k19.2 (fun r23_6 s22_6 k200 => ?_)
                have k20 := k19.trans k200
                refine zf_X3_take k20.2 (fun r25_6 s24_6 k210 => ?_)
                have k21 := k20.trans k210
                refine zf_X3_isEmpty k21.2 (fun r27_6 s26_6 b23 k220 => ?_)
                have k22 := k21.trans k220
                refine zf_X3_demand k22.2 (fun s28_6 k240 => ?_)
                have k24 := k22.trans k240
                exact h _ k24
          · unfold PX7_followFrame_64
            refine ⟨fun c26 => ?_, fun c26 => ?_⟩
            · refine zf_X3_demand k8.2 (fun s1_25 k270 => ?_)
              have k27 := k8.trans k270
              refine zf_X3_result k27.2 (fun r3_25 s2_25 k280 => ?_)
              have k28 := k27.trans k280
              refine zf_X3_take k28.2 (fun r5_25 s4_25 k290 => ?_)
              have k29 := k28.trans k290
              refine zf_X3_isEmpty k29.2 (fun r7_25 s6_25 b31 k300 => ?_)
              have k30 := k29.trans k300
              refine zf_X3_demand k30.2 (fun s8_25 k320 => ?_)
              have k32 := k30.trans k320
              exact h _ k32
            · exact absurd (by decide) c26
        · unfold PX7_followFrame_64
          refine ⟨fun c34 => ?_, fun c34 => ?_⟩
          · refine zf_X3_demand k0.2 (fun s1_33 k350 => ?_)
            have k35 := k0.trans k350
            refine zf_X3_result k35.2 (fun r3_33 s2_33 k360 => ?_)
            have k36 := k35.trans k360
            refine zf_X3_take k36.2 (fun r5_33 s4_33 k370 => ?_)
            have k37 := k36.trans k370
            refine zf_X3_isEmpty k37.2 (fun r7_33 s6_33 b39 k380 => ?_)
            have k38 := k37.trans k380
            refine zf_X3_demand k38.2 (fun s8_33 k400 => ?_)
            have k40 := k38.trans k400
            exact h _ k40
          · exact absurd (by decide) c34
      · refine ⟨fun c41 => ?_, fun c41 => ?_⟩
        · unfold PX7_followFrame_43
          refine ⟨fun c43 => ?_, fun c43 => ?_⟩
          · refine zf_X3_openedBy k0.2 (fun r2_42 s1_42 k440 => ?_)
            have k44 := k0.trans k440
            refine ⟨fun c45 => ?_, fun c45 => ?_⟩
            · refine ⟨fun c46 => ?_, fun c46 => ?_⟩
              · exact absurd c46 (by decide)
              · refine zf_X3_result k44.2 (fun r12_42 s11_42 k470 => ?_)
                have k47 := k44.trans k470
                refine ⟨fun c48 => ?_, fun c48 => ?_⟩
                · refine zf_X3_demand k47.2 (fun s13_42 k490 => ?_)
                  have k49 := k47.trans k490
                  refine zf_X3_result k49.2 (fun r15_42 s14_42 k500 => ?_)
                  have k50 := k49.trans k500
                  refine zf_X3_take k50.2 (fun r17_42 s16_42 k510 => ?_)
                  have k51 := k50.trans k510
                  refine zf_X3_isEmpty k51.2 (fun r19_42 s18_42 b53 k520 => ?_)
                  have k52 := k51.trans k520
                  refine zf_X3_demand k52.2 (fun s20_42 k540 => ?_)
                  have k54 := k52.trans k540
                  exact h _ k54
                · refine zf_X3_demand k47.2 (fun s21_42 k550 => ?_)
                  have k55 := k47.trans k550
                  refine zf_X3_result k55.2 (fun r23_42 s22_42 k560 => ?_)
                  have k56 := k55.trans k560
                  refine zf_X3_take k56.2 (fun r25_42 s24_42 k570 => ?_)
                  have k57 := k56.trans k570
                  refine zf_X3_isEmpty k57.2 (fun r27_42 s26_42 b59 k580 => ?_)
                  have k58 := k57.trans k580
                  refine zf_X3_demand k58.2 (fun s28_42 k600 => ?_)
                  have k60 := k58.trans k600
                  exact h _ k60
            · unfold PX7_followFrame_64
              refine ⟨fun c62 => ?_, fun c62 => ?_⟩
              · refine zf_X3_demand k44.2 (fun s1_61 k630 => ?_)
                have k63 := k44.trans k630
                refine zf_X3_result k63.2 (fun r3_61 s2_61 k640 => ?_)
                have k64 := k63.trans k640
                refine zf_X3_take k64.2 (fun r5_61 s4_61 k650 => ?_)
                have k65 := k64.trans k650
                refine zf_X3_isEmpty k65.2 (fun r7_61 s6_61 b67 k660 => ?_)
                have k66 := k65.trans k660
                refine zf_X3_demand k66.2 (fun s8_61 k680 => ?_)
                have k68 := k66.trans k680
                exact h _ k68
              · exact absurd (by decide) c62
          · unfold PX7_followFrame_64
            refine ⟨fun c70 => ?_, fun c70 => ?_⟩
            · refine zf_X3_demand k0.2 (fun s1_69 k710 => ?_)
              have k71 := k0.trans k710
              refine zf_X3_result k71.2 (fun r3_69 s2_69 k720 => ?_)
              have k72 := k71.trans k720
              refine zf_X3_take k72.2 (fun r5_69 s4_69 k730 => ?_)
              have k73 := k72.trans k730
              refine zf_X3_isEmpty k73.2 (fun r7_69 s6_69 b75 k740 => ?_)
              have k74 := k73.trans k740
              refine zf_X3_demand k74.2 (fun s8_69 k760 => ?_)
              have k76 := k74.trans k760
              exact h _ k76
            · exact absurd (by decide) c70
        · exact h _ k0
theorem zf_X7_followTable {σ : zS} {K : zS → Prop} {QX : zS → Prop} (hv : sV σ) (h : ∀ s, tzR σ s → K s) : zCT zZC zmX7_followTable [.ref 7, .ref 6] σ (zQv K) QX := by
  refine rX7_followTable (fun m x2 x3 s => tzR σ s ∧ 0 ≤ x3.toInt ∧ m = (2147483648 - x3.toInt).toNat) ?_ ?_
  · rintro m x2 x3 τ ⟨k0, hx, rfl⟩
    unfold PX7_followTable_15
    refine ⟨fun c1 => ?_, fun c1 => ?_⟩
    · refine zf_X3_take k0.2 (fun r2 s1 k20 => ?_)
      have k2 := k0.trans k20
      refine zf_X3_forget k2.2 (fun s3 k30 => ?_)
      have k3 := k2.trans k30
      exact h _ k3
    · refine ⟨fun c4 => ?_, fun c4 => ?_⟩
      · refine zf_X3_take k0.2 (fun r5 s4 k50 => ?_)
        have k5 := k0.trans k50
        refine zf_X3_forget k5.2 (fun s6 k60 => ?_)
        have k6 := k5.trans k60
        exact h _ k6
      · refine ⟨(vp_lh hx (vh_1 c4) (by decide)), ?_⟩
        refine zf_X3_labelType k0.2 (fun r8 s7 k70 => ?_)
        have k7 := k0.trans k70
        refine ⟨fun c8 => ?_, fun c8 => ?_⟩
        · refine zf_X3_demand k7.2 (fun s9 k90 => ?_)
          have k9 := k7.trans k90
          exact ⟨_, (inc_1 c4 hx).2, k9, (inc_1 c4 hx).1, rfl⟩
        · refine ⟨fun c10 => ?_, fun c10 => ?_⟩
          · refine zf_X3_demand k7.2 (fun s10 k110 => ?_)
            have k11 := k7.trans k110
            exact ⟨_, (inc_1 c4 hx).2, k11, (inc_1 c4 hx).1, rfl⟩
          · refine zf_X3_demand k7.2 (fun s11 k120 => ?_)
            have k12 := k7.trans k120
            exact ⟨_, (inc_1 c4 hx).2, k12, (inc_1 c4 hx).1, rfl⟩
  · unfold PX7_followTable_0
    have k0 : tzR σ σ := ⟨tzK.rf, hv⟩
    refine zf_X3_take k0.2 (fun r2 s1 k130 => ?_)
    have k13 := k0.trans k130
    exact ⟨_, trivial, k13, by decide, rfl⟩
theorem zf_X7_followLeap {σ : zS} {a1 : Int32} {a2 : Int64} {K : zS → Prop} {QX : zS → Prop} (hv : sV σ) (h : ∀ s, tzR σ s → K s) : zCT zZC zmX7_followLeap [.ref 7, .int a1, .long a2] σ (zQv K) QX := by
  refine rX7_followLeap ?_
  unfold PX7_followLeap_0
  have k0 : tzR σ σ := ⟨tzK.rf, hv⟩
  refine ⟨fun c1 => ?_, fun c1 => ?_⟩
  · refine zf_X3_bodyResult k0.2 (fun r2 s1 k20 => ?_)
    have k2 := k0.trans k20
    refine zf_X3_take k2.2 (fun r4 s3 k30 => ?_)
    have k3 := k2.trans k30
    refine zf_X3_forget k3.2 (fun s5 k40 => ?_)
    have k4 := k3.trans k40
    exact h _ k4
  · refine zf_X3_labelType k0.2 (fun r7 s6 k50 => ?_)
    have k5 := k0.trans k50
    refine ⟨fun c6 => ?_, fun c6 => ?_⟩
    · refine zf_X3_take k5.2 (fun r9 s8 k70 => ?_)
      have k7 := k5.trans k70
      refine zf_X3_take k7.2 (fun r11 s10 k80 => ?_)
      have k8 := k7.trans k80
      refine zf_X3_leave k8.2 (fun s12 k90 => ?_)
      have k9 := k8.trans k90
      exact h _ k9
    · refine zf_X3_take k5.2 (fun r14 s13 k100 => ?_)
      have k10 := k5.trans k100
      refine zf_X3_forget k10.2 (fun s15 k110 => ?_)
      have k11 := k10.trans k110
      exact h _ k11
theorem zf_X7_followCall {σ : zS} {a1 : Int32} {a2 : Int64} {K : zS → Prop} {QX : zS → Prop} (hv : sV σ) (h : ∀ s, tzR σ s → K s) : zCT zZC zmX7_followCall [.ref 7, .int a1, .long a2] σ (zQv K) QX := by
  refine rX7_followCall (fun m x4 x5 s => tzR σ s ∧ m = (x5.toInt + 1).toNat) ?_ ?_
  · rintro m x4 x5 τ ⟨k0, rfl⟩
    unfold PX7_followCall_107
    refine ⟨fun c1 => ?_, fun c1 => ?_⟩
    · refine zf_X2_resultOf k0.2 (fun r2 s1 k20 => ?_)
      have k2 := k0.trans k20
      refine zf_X3_leave k2.2 (fun s3 k30 => ?_)
      have k3 := k2.trans k30
      exact h _ k3
    · refine zf_X2_parameter k0.2 (fun r5 s4 k40 => ?_)
      have k4 := k0.trans k40
      refine zf_X3_take k4.2 (fun r7 s6 k50 => ?_)
      have k5 := k4.trans k50
      exact ⟨_, dec_1 c1, k5, rfl⟩
  · unfold PX7_followCall_0
    have k0 : tzR σ σ := ⟨tzK.rf, hv⟩
    refine ⟨fun c6 => ?_, fun c6 => ?_⟩
    · refine zf_X2_signatureOf k0.2 (fun r2 s1 k70 => ?_)
      have k7 := k0.trans k70
      unfold PX7_followCall_77
      refine ⟨fun c9 => ?_, fun c9 => ?_⟩
      · refine zf_X3_demand k7.2 (fun s1_8 k100 => ?_)
        have k10 := k7.trans k100
        refine zf_X2_parameterCount k10.2 (fun r3_8 s2_8 k110 => ?_)
        have k11 := k10.trans k110
        exact ⟨_, trivial, k11, rfl⟩
      · refine zf_X3_demand k7.2 (fun s4_8 k120 => ?_)
        have k12 := k7.trans k120
        refine zf_X2_parameterCount k12.2 (fun r6_8 s5_8 k130 => ?_)
        have k13 := k12.trans k130
        exact ⟨_, trivial, k13, rfl⟩
    · refine ⟨fun c14 => ?_, fun c14 => ?_⟩
      · refine zf_X3_demand k0.2 (fun s3 k150 => ?_)
        have k15 := k0.trans k150
        refine zf_X3_take k15.2 (fun r5 s4 k160 => ?_)
        have k16 := k15.trans k160
        refine ⟨(by unfold vp_in; decide), ?_⟩
        refine ⟨fun c17 => ?_, fun c17 => ?_⟩
        · unfold PX7_followCall_77
          refine ⟨fun c19 => ?_, fun c19 => ?_⟩
          · refine zf_X3_demand k16.2 (fun s1_18 k200 => ?_)
            have k20 := k16.trans k200
            refine zf_X2_parameterCount k20.2 (fun r3_18 s2_18 k210 => ?_)
            have k21 := k20.trans k210
            exact ⟨_, trivial, k21, rfl⟩
          · exact absurd (by decide) c19
        · unfold PX7_followCall_77
          refine ⟨fun c23 => ?_, fun c23 => ?_⟩
          · refine zf_X3_demand k16.2 (fun s1_22 k240 => ?_)
            have k24 := k16.trans k240
            refine zf_X2_parameterCount k24.2 (fun r3_22 s2_22 k250 => ?_)
            have k25 := k24.trans k250
            exact ⟨_, trivial, k25, rfl⟩
          · refine zf_X3_demand k16.2 (fun s4_22 k260 => ?_)
            have k26 := k16.trans k260
            refine zf_X2_parameterCount k26.2 (fun r6_22 s5_22 k270 => ?_)
            have k27 := k26.trans k270
            exact ⟨_, trivial, k27, rfl⟩
      · refine zf_X3_demand k0.2 (fun s6 k280 => ?_)
        have k28 := k0.trans k280
        refine zf_X3_take k28.2 (fun r8 s7 k290 => ?_)
        have k29 := k28.trans k290
        refine ⟨(by unfold vp_in; decide), ?_⟩
        refine ⟨fun c30 => ?_, fun c30 => ?_⟩
        · unfold PX7_followCall_77
          refine ⟨fun c32 => ?_, fun c32 => ?_⟩
          · refine zf_X3_demand k29.2 (fun s1_31 k330 => ?_)
            have k33 := k29.trans k330
            refine zf_X2_parameterCount k33.2 (fun r3_31 s2_31 k340 => ?_)
            have k34 := k33.trans k340
            exact ⟨_, trivial, k34, rfl⟩
          · exact absurd (by decide) c32
        · unfold PX7_followCall_77
          refine ⟨fun c36 => ?_, fun c36 => ?_⟩
          · refine zf_X3_demand k29.2 (fun s1_35 k370 => ?_)
            have k37 := k29.trans k370
            refine zf_X2_parameterCount k37.2 (fun r3_35 s2_35 k380 => ?_)
            have k38 := k37.trans k380
            exact ⟨_, trivial, k38, rfl⟩
          · refine zf_X3_demand k29.2 (fun s4_35 k390 => ?_)
            have k39 := k29.trans k390
            refine zf_X2_parameterCount k39.2 (fun r6_35 s5_35 k400 => ?_)
            have k40 := k39.trans k400
            exact ⟨_, trivial, k40, rfl⟩
theorem zf_X7_followChoice {σ : zS} {a1 : Int32} {K : zS → Prop} {QX : zS → Prop} (hv : sV σ) (h : ∀ s, tzR σ s → K s) : zCT zZC zmX7_followChoice [.ref 7, .int a1] σ (zQv K) QX := by
  refine rX7_followChoice ?_
  unfold PX7_followChoice_0
  have k0 : tzR σ σ := ⟨tzK.rf, hv⟩
  refine ⟨fun c1 => ?_, fun c1 => ?_⟩
  · refine zf_X3_take k0.2 (fun r2 s1 k20 => ?_)
    have k2 := k0.trans k20
    exact h _ k2
  · refine zf_X3_take k0.2 (fun r4 s3 k30 => ?_)
    have k3 := k0.trans k30
    refine zf_X3_take k3.2 (fun r6 s5 k40 => ?_)
    have k4 := k3.trans k40
    refine zf_X3_take k4.2 (fun r8 s7 k50 => ?_)
    have k5 := k4.trans k50
    refine ⟨fun c6 => ?_, fun c6 => ?_⟩
    · refine zf_X3_demand k5.2 (fun s9 k70 => ?_)
      have k7 := k5.trans k70
      refine ⟨fun c8 => ?_, fun c8 => ?_⟩
      · refine zf_X3_leave k7.2 (fun s10 k90 => ?_)
        have k9 := k7.trans k90
        exact h _ k9
      · refine zf_X3_leave k7.2 (fun s11 k100 => ?_)
        have k10 := k7.trans k100
        exact h _ k10
    · refine ⟨fun c11 => ?_, fun c11 => ?_⟩
      · refine zf_X3_demand k5.2 (fun s12 k120 => ?_)
        have k12 := k5.trans k120
        refine ⟨fun c13 => ?_, fun c13 => ?_⟩
        · refine zf_X3_leave k12.2 (fun s13 k140 => ?_)
          have k14 := k12.trans k140
          exact h _ k14
        · refine zf_X3_leave k12.2 (fun s14 k150 => ?_)
          have k15 := k12.trans k150
          exact h _ k15
      · refine ⟨fun c16 => ?_, fun c16 => ?_⟩
        · refine zf_X3_demand k5.2 (fun s15 k170 => ?_)
          have k17 := k5.trans k170
          refine ⟨fun c18 => ?_, fun c18 => ?_⟩
          · refine zf_X3_leave k17.2 (fun s16 k190 => ?_)
            have k19 := k17.trans k190
            exact h _ k19
          · refine zf_X3_leave k17.2 (fun s17 k200 => ?_)
            have k20 := k17.trans k200
            exact h _ k20
        · refine zf_X3_demand k5.2 (fun s18 k210 => ?_)
          have k21 := k5.trans k210
          refine ⟨fun c22 => ?_, fun c22 => ?_⟩
          · refine zf_X3_leave k21.2 (fun s19 k230 => ?_)
            have k23 := k21.trans k230
            exact h _ k23
          · refine zf_X3_leave k21.2 (fun s20 k240 => ?_)
            have k24 := k21.trans k240
            exact h _ k24
theorem zf_X7_followLocal {σ : zS} {a1 : Int32} {a2 : Int64} {K : zS → Prop} {QX : zS → Prop} (hv : sV σ) (h : ∀ s, tzR σ s → K s) : zCT zZC zmX7_followLocal [.ref 7, .int a1, .long a2] σ (zQv K) QX := by
  refine rX7_followLocal ?_
  unfold PX7_followLocal_0
  have k0 : tzR σ σ := ⟨tzK.rf, hv⟩
  refine ⟨fun c1 => ?_, fun c1 => ?_⟩
  · refine zf_X3_demand k0.2 (fun s1 k20 => ?_)
    have k2 := k0.trans k20
    exact h _ k2
  · refine ⟨fun c3 => ?_, fun c3 => ?_⟩
    · refine zf_X3_demand k0.2 (fun s2 k40 => ?_)
      have k4 := k0.trans k40
      exact h _ k4
    · refine ⟨fun c5 => ?_, fun c5 => ?_⟩
      · refine ⟨(vp_i64 c1 c5 (by decide)), ?_⟩
        refine ⟨fun c6 => ?_, fun c6 => ?_⟩
        · refine ⟨fun c7 => ?_, fun c7 => ?_⟩
          · exact h _ k0
          · refine zf_X3_leave k0.2 (fun s3 k80 => ?_)
            have k8 := k0.trans k80
            exact h _ k8
        · refine zf_X3_take k0.2 (fun r5 s4 k90 => ?_)
          have k9 := k0.trans k90
          refine ⟨fun c10 => ?_, fun c10 => ?_⟩
          · exact h _ k9
          · refine zf_X3_leave k9.2 (fun s6 k110 => ?_)
            have k11 := k9.trans k110
            exact h _ k11
      · refine zf_X3_demand k0.2 (fun s7 k120 => ?_)
        have k12 := k0.trans k120
        exact h _ k12
theorem zf_X7_followGlobal {σ : zS} {a1 : Int32} {a2 : Int64} {K : zS → Prop} {QX : zS → Prop} (hv : sV σ) (h : ∀ s, tzR σ s → K s) : zCT zZC zmX7_followGlobal [.ref 7, .int a1, .long a2] σ (zQv K) QX := by
  refine rX7_followGlobal ?_
  unfold PX7_followGlobal_0
  have k0 : tzR σ σ := ⟨tzK.rf, hv⟩
  refine ⟨fun c1 => ?_, fun c1 => ?_⟩
  · refine zf_X3_demand k0.2 (fun s1 k20 => ?_)
    have k2 := k0.trans k20
    exact h _ k2
  · refine ⟨fun c3 => ?_, fun c3 => ?_⟩
    · refine zf_X2_typeOfGlobal k0.2 (fun r3 s2 k40 => ?_)
      have k4 := k0.trans k40
      refine ⟨fun c5 => ?_, fun c5 => ?_⟩
      · refine zf_X3_leave k4.2 (fun s4 k60 => ?_)
        have k6 := k4.trans k60
        exact h _ k6
      · refine zf_X2_changesGlobal k4.2 (fun r6 s5 b8 k70 => ?_)
        have k7 := k4.trans k70
        refine zf_X3_demand k7.2 (fun s7 k90 => ?_)
        have k9 := k7.trans k90
        refine zf_X3_take k9.2 (fun r9 s8 k100 => ?_)
        have k10 := k9.trans k100
        exact h _ k10
    · refine zf_X3_demand k0.2 (fun s10 k110 => ?_)
      have k11 := k0.trans k110
      exact h _ k11
theorem zf_X7_followAccess {σ : zS} {a1 : Int32} {a2 : Int64} {K : zS → Prop} {QX : zS → Prop} (hv : sV σ) (h : ∀ s, tzR σ s → K s) : zCT zZC zmX7_followAccess [.ref 7, .int a1, .long a2] σ (zQv K) QX := by
  refine rX7_followAccess ?_
  have j96 : ∀ (x1 : Int32) (τ : zS), tzR σ τ → PX7_followAccess_96 (zQv K) QX x1 τ := by
    intro x1 τ k0
    unfold PX7_followAccess_96
    refine ⟨fun c1 => ?_, fun c1 => ?_⟩
    · exact absurd c1 (by decide)
    · refine ⟨fun c2 => ?_, fun c2 => ?_⟩
      · refine zf_X3_take k0.2 (fun r9 s8 k30 => ?_)
        have k3 := k0.trans k30
        refine zf_X3_leave k3.2 (fun s10 k40 => ?_)
        have k4 := k3.trans k40
        exact h _ k4
      · refine zf_X3_take k0.2 (fun r12 s11 k50 => ?_)
        have k5 := k0.trans k50
        refine zf_X3_take k5.2 (fun r14 s13 k60 => ?_)
        have k6 := k5.trans k60
        exact h _ k6
  have j84 : ∀ (x1 : Int32) (τ : zS), tzR σ τ → PX7_followAccess_84 (zQv K) QX x1 τ := by
    intro x1 τ k0
    unfold PX7_followAccess_84
    refine ⟨fun c7 => ?_, fun c7 => ?_⟩
    · exact j96 x1 _ k0
    · refine ⟨fun c8 => ?_, fun c8 => ?_⟩
      · refine ⟨fun c9 => ?_, fun c9 => ?_⟩
        · refine ⟨fun c10 => ?_, fun c10 => ?_⟩
          · refine zf_X3_take k0.2 (fun r2 s1 k110 => ?_)
            have k11 := k0.trans k110
            refine zf_X3_leave k11.2 (fun s3 k120 => ?_)
            have k12 := k11.trans k120
            exact h _ k12
          · refine zf_X3_take k0.2 (fun r5 s4 k130 => ?_)
            have k13 := k0.trans k130
            refine zf_X3_take k13.2 (fun r7 s6 k140 => ?_)
            have k14 := k13.trans k140
            exact h _ k14
        · exact absurd (by decide) c9
      · exact j96 x1 _ k0
  unfold PX7_followAccess_0
  have k0 : tzR σ σ := ⟨tzK.rf, hv⟩
  refine ⟨fun c15 => ?_, fun c15 => ?_⟩
  · refine zf_X3_demand k0.2 (fun s1 k160 => ?_)
    have k16 := k0.trans k160
    refine ⟨fun c17 => ?_, fun c17 => ?_⟩
    · refine zf_X3_demand k16.2 (fun s2 k180 => ?_)
      have k18 := k16.trans k180
      refine ⟨fun c19 => ?_, fun c19 => ?_⟩
      · exact j96 a1 _ k18
      · refine ⟨fun c20 => ?_, fun c20 => ?_⟩
        · exact j84 a1 _ k18
        · refine ⟨fun c21 => ?_, fun c21 => ?_⟩
          · exact j96 a1 _ k18
          · exact j84 a1 _ k18
    · refine ⟨fun c22 => ?_, fun c22 => ?_⟩
      · refine zf_X3_demand k16.2 (fun s3 k230 => ?_)
        have k23 := k16.trans k230
        refine ⟨fun c24 => ?_, fun c24 => ?_⟩
        · exact j96 a1 _ k23
        · refine ⟨fun c25 => ?_, fun c25 => ?_⟩
          · exact j84 a1 _ k23
          · refine ⟨fun c26 => ?_, fun c26 => ?_⟩
            · exact j96 a1 _ k23
            · exact j84 a1 _ k23
      · refine ⟨(vp_lh (vl_1 c17) (vh_1 c22) (by decide)), ?_⟩
        refine ⟨fun c27 => ?_, fun c27 => ?_⟩
        · refine zf_X3_demand k16.2 (fun s4 k280 => ?_)
          have k28 := k16.trans k280
          refine ⟨fun c29 => ?_, fun c29 => ?_⟩
          · exact j96 a1 _ k28
          · refine ⟨fun c30 => ?_, fun c30 => ?_⟩
            · exact j84 a1 _ k28
            · refine ⟨fun c31 => ?_, fun c31 => ?_⟩
              · exact j96 a1 _ k28
              · exact j84 a1 _ k28
        · refine zf_X3_demand k16.2 (fun s5 k320 => ?_)
          have k32 := k16.trans k320
          refine ⟨fun c33 => ?_, fun c33 => ?_⟩
          · exact j96 a1 _ k32
          · refine ⟨fun c34 => ?_, fun c34 => ?_⟩
            · exact j84 a1 _ k32
            · refine ⟨fun c35 => ?_, fun c35 => ?_⟩
              · exact j96 a1 _ k32
              · exact j84 a1 _ k32
  · refine zf_X3_demand k0.2 (fun s6 k360 => ?_)
    have k36 := k0.trans k360
    refine ⟨fun c37 => ?_, fun c37 => ?_⟩
    · refine zf_X3_demand k36.2 (fun s7 k380 => ?_)
      have k38 := k36.trans k380
      refine ⟨fun c39 => ?_, fun c39 => ?_⟩
      · exact j96 a1 _ k38
      · refine ⟨fun c40 => ?_, fun c40 => ?_⟩
        · exact j84 a1 _ k38
        · refine ⟨fun c41 => ?_, fun c41 => ?_⟩
          · exact j96 a1 _ k38
          · exact j84 a1 _ k38
    · refine ⟨fun c42 => ?_, fun c42 => ?_⟩
      · refine zf_X3_demand k36.2 (fun s8 k430 => ?_)
        have k43 := k36.trans k430
        refine ⟨fun c44 => ?_, fun c44 => ?_⟩
        · exact j96 a1 _ k43
        · refine ⟨fun c45 => ?_, fun c45 => ?_⟩
          · exact j84 a1 _ k43
          · refine ⟨fun c46 => ?_, fun c46 => ?_⟩
            · exact j96 a1 _ k43
            · exact j84 a1 _ k43
      · refine ⟨(vp_lh (vl_1 c37) (vh_1 c42) (by decide)), ?_⟩
        refine ⟨fun c47 => ?_, fun c47 => ?_⟩
        · refine zf_X3_demand k36.2 (fun s9 k480 => ?_)
          have k48 := k36.trans k480
          refine ⟨fun c49 => ?_, fun c49 => ?_⟩
          · exact j96 a1 _ k48
          · refine ⟨fun c50 => ?_, fun c50 => ?_⟩
            · exact j84 a1 _ k48
            · refine ⟨fun c51 => ?_, fun c51 => ?_⟩
              · exact j96 a1 _ k48
              · exact j84 a1 _ k48
        · refine zf_X3_demand k36.2 (fun s10 k520 => ?_)
          have k52 := k36.trans k520
          refine ⟨fun c53 => ?_, fun c53 => ?_⟩
          · exact j96 a1 _ k52
          · refine ⟨fun c54 => ?_, fun c54 => ?_⟩
            · exact j84 a1 _ k52
            · refine ⟨fun c55 => ?_, fun c55 => ?_⟩
              · exact j96 a1 _ k52
              · exact j84 a1 _ k52
theorem zf_X7_followSize {σ : zS} {a1 : Int32} {K : zS → Prop} {QX : zS → Prop} (hv : sV σ) (h : ∀ s, tzR σ s → K s) : zCT zZC zmX7_followSize [.ref 7, .int a1] σ (zQv K) QX := by
  refine rX7_followSize ?_
  unfold PX7_followSize_0
  have k0 : tzR σ σ := ⟨tzK.rf, hv⟩
  refine ⟨fun c1 => ?_, fun c1 => ?_⟩
  · refine zf_X3_demand k0.2 (fun s1 k20 => ?_)
    have k2 := k0.trans k20
    refine ⟨fun c3 => ?_, fun c3 => ?_⟩
    · refine zf_X3_take k2.2 (fun r3 s2 k40 => ?_)
      have k4 := k2.trans k40
      refine zf_X3_leave k4.2 (fun s4 k50 => ?_)
      have k5 := k4.trans k50
      exact h _ k5
    · refine zf_X3_leave k2.2 (fun s5 k60 => ?_)
      have k6 := k2.trans k60
      exact h _ k6
  · refine zf_X3_demand k0.2 (fun s6 k70 => ?_)
    have k7 := k0.trans k70
    refine ⟨fun c8 => ?_, fun c8 => ?_⟩
    · refine zf_X3_take k7.2 (fun r8 s7 k90 => ?_)
      have k9 := k7.trans k90
      refine zf_X3_leave k9.2 (fun s9 k100 => ?_)
      have k10 := k9.trans k100
      exact h _ k10
    · refine zf_X3_leave k7.2 (fun s10 k110 => ?_)
      have k11 := k7.trans k110
      exact h _ k11
theorem zf_X7_followPlain {σ : zS} {a1 : Int32} {K : zS → Prop} {QX : zS → Prop} (hv : sV σ) (h : ∀ s, tzR σ s → K s) : zCT zZC zmX7_followPlain [.ref 7, .int a1] σ (zQv K) QX := by
  refine rX7_followPlain ?_
  unfold PX7_followPlain_0
  have k0 : tzR σ σ := ⟨tzK.rf, hv⟩
  refine ⟨fun c1 => ?_, fun c1 => ?_⟩
  · refine zf_X3_leave k0.2 (fun s1 k20 => ?_)
    have k2 := k0.trans k20
    exact h _ k2
  · refine ⟨fun c3 => ?_, fun c3 => ?_⟩
    · refine zf_X3_leave k0.2 (fun s2 k40 => ?_)
      have k4 := k0.trans k40
      exact h _ k4
    · refine zf_X7_takesLong k0.2 (fun r4 s3 b6 k50 => ?_)
      have k5 := k0.trans k50
      refine ⟨fun c7 => ?_, fun c7 => ?_⟩
      · refine zf_X3_take k5.2 (fun r6 s5 k80 => ?_)
        have k8 := k5.trans k80
        refine zf_X7_takesTwo k8.2 (fun r8 s7 b10 k90 => ?_)
        have k9 := k8.trans k90
        refine ⟨fun c11 => ?_, fun c11 => ?_⟩
        · refine zf_X7_leavesLong k9.2 (fun r10 s9 b13 k120 => ?_)
          have k12 := k9.trans k120
          refine ⟨fun c14 => ?_, fun c14 => ?_⟩
          · refine zf_X3_leave k12.2 (fun s11 k150 => ?_)
            have k15 := k12.trans k150
            exact h _ k15
          · refine zf_X3_leave k12.2 (fun s12 k160 => ?_)
            have k16 := k12.trans k160
            exact h _ k16
        · refine zf_X3_take k9.2 (fun r14 s13 k170 => ?_)
          have k17 := k9.trans k170
          refine zf_X7_leavesLong k17.2 (fun r16 s15 b19 k180 => ?_)
          have k18 := k17.trans k180
          refine ⟨fun c20 => ?_, fun c20 => ?_⟩
          · refine zf_X3_leave k18.2 (fun s17 k210 => ?_)
            have k21 := k18.trans k210
            exact h _ k21
          · refine zf_X3_leave k18.2 (fun s18 k220 => ?_)
            have k22 := k18.trans k220
            exact h _ k22
      · refine zf_X3_take k5.2 (fun r20 s19 k230 => ?_)
        have k23 := k5.trans k230
        refine zf_X7_takesTwo k23.2 (fun r22 s21 b25 k240 => ?_)
        have k24 := k23.trans k240
        refine ⟨fun c26 => ?_, fun c26 => ?_⟩
        · refine zf_X7_leavesLong k24.2 (fun r24 s23 b28 k270 => ?_)
          have k27 := k24.trans k270
          refine ⟨fun c29 => ?_, fun c29 => ?_⟩
          · refine zf_X3_leave k27.2 (fun s25 k300 => ?_)
            have k30 := k27.trans k300
            exact h _ k30
          · refine zf_X3_leave k27.2 (fun s26 k310 => ?_)
            have k31 := k27.trans k310
            exact h _ k31
        · refine zf_X3_take k24.2 (fun r28 s27 k320 => ?_)
          have k32 := k24.trans k320
          refine zf_X7_leavesLong k32.2 (fun r30 s29 b34 k330 => ?_)
          have k33 := k32.trans k330
          refine ⟨fun c35 => ?_, fun c35 => ?_⟩
          · refine zf_X3_leave k33.2 (fun s31 k360 => ?_)
            have k36 := k33.trans k360
            exact h _ k36
          · refine zf_X3_leave k33.2 (fun s32 k370 => ?_)
            have k37 := k33.trans k370
            exact h _ k37
theorem zf_X7_followLonger {σ : zS} {a1 : Int32} {a2 : Int64} {K : zS → Prop} {QX : zS → Prop} (hv : sV σ) (h : ∀ s, tzR σ s → K s) : zCT zZC zmX7_followLonger [.ref 7, .int a1, .long a2] σ (zQv K) QX := by
  refine rX7_followLonger ?_
  have j159 : ∀ (x1 : Int32) (τ : zS), tzR σ τ → PX7_followLonger_159 (zQv K) QX x1 τ := by
    intro x1 τ k0
    unfold PX7_followLonger_159
    refine ⟨fun c1 => ?_, fun c1 => ?_⟩
    · exact h _ k0
    · refine ⟨fun c2 => ?_, fun c2 => ?_⟩
      · exact h _ k0
      · refine zf_X3_take k0.2 (fun r2 s1 k30 => ?_)
        have k3 := k0.trans k30
        refine zf_X3_take k3.2 (fun r4 s3 k40 => ?_)
        have k4 := k3.trans k40
        refine zf_X3_take k4.2 (fun r6 s5 k50 => ?_)
        have k5 := k4.trans k50
        exact h _ k5
  have j137 : ∀ (x1 : Int32) (τ : zS), tzR σ τ → PX7_followLonger_137 (zQv K) QX x1 τ := by
    intro x1 τ k0
    unfold PX7_followLonger_137
    refine ⟨fun c6 => ?_, fun c6 => ?_⟩
    · refine zf_X3_demand k0.2 (fun s1 k70 => ?_)
      have k7 := k0.trans k70
      exact j159 x1 _ k7
    · refine zf_X3_demand k0.2 (fun s2 k80 => ?_)
      have k8 := k0.trans k80
      exact j159 x1 _ k8
  have j123 : ∀ (x1 : Int32) (τ : zS), tzR σ τ → PX7_followLonger_123 (zQv K) QX x1 τ := by
    intro x1 τ k0
    unfold PX7_followLonger_123
    refine ⟨fun c9 => ?_, fun c9 => ?_⟩
    · exact j137 x1 _ k0
    · refine ⟨fun c10 => ?_, fun c10 => ?_⟩
      · exact j137 x1 _ k0
      · exact j159 x1 _ k0
  have j101 : ∀ (x1 : Int32) (τ : zS), tzR σ τ → PX7_followLonger_101 (zQv K) QX x1 τ := by
    intro x1 τ k0
    unfold PX7_followLonger_101
    refine ⟨fun c11 => ?_, fun c11 => ?_⟩
    · refine zf_X3_demand k0.2 (fun s1 k120 => ?_)
      have k12 := k0.trans k120
      exact j123 x1 _ k12
    · refine zf_X3_demand k0.2 (fun s2 k130 => ?_)
      have k13 := k0.trans k130
      exact j123 x1 _ k13
  have j80 : ∀ (x1 : Int32) (τ : zS), tzR σ τ → PX7_followLonger_80 (zQv K) QX x1 τ := by
    intro x1 τ k0
    unfold PX7_followLonger_80
    refine ⟨fun c14 => ?_, fun c14 => ?_⟩
    · exact j101 x1 _ k0
    · refine ⟨fun c15 => ?_, fun c15 => ?_⟩
      · exact j101 x1 _ k0
      · refine ⟨fun c16 => ?_, fun c16 => ?_⟩
        · exact j101 x1 _ k0
        · exact j123 x1 _ k0
  have j52 : ∀ (x1 : Int32) (x2 : Int64) (τ : zS), tzR σ τ → PX7_followLonger_52 (zQv K) QX x1 x2 τ := by
    intro x1 x2 τ k0
    unfold PX7_followLonger_52
    refine ⟨(by unfold vp_in; decide), ?_⟩
    refine ⟨fun c17 => ?_, fun c17 => ?_⟩
    · refine zf_X3_demand k0.2 (fun s1 k180 => ?_)
      have k18 := k0.trans k180
      exact j80 x1 _ k18
    · refine zf_X3_demand k0.2 (fun s2 k190 => ?_)
      have k19 := k0.trans k190
      exact j80 x1 _ k19
  have j38 : ∀ (x1 : Int32) (x2 : Int64) (τ : zS), tzR σ τ → PX7_followLonger_38 (zQv K) QX x1 x2 τ := by
    intro x1 x2 τ k0
    unfold PX7_followLonger_38
    refine ⟨fun c20 => ?_, fun c20 => ?_⟩
    · exact j52 x1 x2 _ k0
    · refine ⟨fun c21 => ?_, fun c21 => ?_⟩
      · exact j52 x1 x2 _ k0
      · exact j80 x1 _ k0
  have j14 : ∀ (x1 : Int32) (x2 : Int64) (τ : zS), tzR σ τ → PX7_followLonger_14 (zQv K) QX x1 x2 τ := by
    intro x1 x2 τ k0
    unfold PX7_followLonger_14
    refine ⟨fun c22 => ?_, fun c22 => ?_⟩
    · refine zf_X3_demand k0.2 (fun s1 k230 => ?_)
      have k23 := k0.trans k230
      exact j38 x1 x2 _ k23
    · refine zf_X3_demand k0.2 (fun s2 k240 => ?_)
      have k24 := k0.trans k240
      exact j38 x1 x2 _ k24
  unfold PX7_followLonger_0
  have k0 : tzR σ σ := ⟨tzK.rf, hv⟩
  refine ⟨fun c25 => ?_, fun c25 => ?_⟩
  · exact j14 a1 a2 _ k0
  · refine ⟨fun c26 => ?_, fun c26 => ?_⟩
    · exact j14 a1 a2 _ k0
    · exact j38 a1 a2 _ k0
theorem zj_X7_followAccess_96 {x1 : Int32} {σ : zS} {K : zS → Prop} {QX : zS → Prop} (hv : sV σ) (h : ∀ z, tzR σ z → K z) : PX7_followAccess_96 (zQv K) QX x1 σ := by
  have k0 : tzR σ σ := ⟨tzK.rf, hv⟩
  unfold PX7_followAccess_96
  refine ⟨fun c1 => ?_, fun c1 => ?_⟩
  · exact absurd c1 (by decide)
  · refine ⟨fun c2 => ?_, fun c2 => ?_⟩
    · refine zf_X3_take k0.2 (fun r9 s8 k30 => ?_)
      have k3 := k0.trans k30
      refine zf_X3_leave k3.2 (fun s10 k40 => ?_)
      have k4 := k3.trans k40
      exact h _ k4
    · refine zf_X3_take k0.2 (fun r12 s11 k50 => ?_)
      have k5 := k0.trans k50
      refine zf_X3_take k5.2 (fun r14 s13 k60 => ?_)
      have k6 := k5.trans k60
      exact h _ k6
theorem zj_X7_followAccess_84 {x1 : Int32} {σ : zS} {K : zS → Prop} {QX : zS → Prop} (hv : sV σ) (h : ∀ z, tzR σ z → K z) : PX7_followAccess_84 (zQv K) QX x1 σ := by
  have k0 : tzR σ σ := ⟨tzK.rf, hv⟩
  unfold PX7_followAccess_84
  refine ⟨fun c1 => ?_, fun c1 => ?_⟩
  · exact zj_X7_followAccess_96 k0.2 (fun z q => h z (k0.trans q))
  · refine ⟨fun c2 => ?_, fun c2 => ?_⟩
    · refine ⟨fun c3 => ?_, fun c3 => ?_⟩
      · refine ⟨fun c4 => ?_, fun c4 => ?_⟩
        · refine zf_X3_take k0.2 (fun r2 s1 k50 => ?_)
          have k5 := k0.trans k50
          refine zf_X3_leave k5.2 (fun s3 k60 => ?_)
          have k6 := k5.trans k60
          exact h _ k6
        · refine zf_X3_take k0.2 (fun r5 s4 k70 => ?_)
          have k7 := k0.trans k70
          refine zf_X3_take k7.2 (fun r7 s6 k80 => ?_)
          have k8 := k7.trans k80
          exact h _ k8
      · exact absurd (by decide) c3
    · exact zj_X7_followAccess_96 k0.2 (fun z q => h z (k0.trans q))
theorem zj_X7_followLonger_159 {x1 : Int32} {σ : zS} {K : zS → Prop} {QX : zS → Prop} (hv : sV σ) (h : ∀ z, tzR σ z → K z) : PX7_followLonger_159 (zQv K) QX x1 σ := by
  have k0 : tzR σ σ := ⟨tzK.rf, hv⟩
  unfold PX7_followLonger_159
  refine ⟨fun c1 => ?_, fun c1 => ?_⟩
  · exact h _ k0
  · refine ⟨fun c2 => ?_, fun c2 => ?_⟩
    · exact h _ k0
    · refine zf_X3_take k0.2 (fun r2 s1 k30 => ?_)
      have k3 := k0.trans k30
      refine zf_X3_take k3.2 (fun r4 s3 k40 => ?_)
      have k4 := k3.trans k40
      refine zf_X3_take k4.2 (fun r6 s5 k50 => ?_)
      have k5 := k4.trans k50
      exact h _ k5
theorem zj_X7_followLonger_137 {x1 : Int32} {σ : zS} {K : zS → Prop} {QX : zS → Prop} (hv : sV σ) (h : ∀ z, tzR σ z → K z) : PX7_followLonger_137 (zQv K) QX x1 σ := by
  have k0 : tzR σ σ := ⟨tzK.rf, hv⟩
  unfold PX7_followLonger_137
  refine ⟨fun c1 => ?_, fun c1 => ?_⟩
  · refine zf_X3_demand k0.2 (fun s1 k20 => ?_)
    have k2 := k0.trans k20
    exact zj_X7_followLonger_159 k2.2 (fun z q => h z (k2.trans q))
  · refine zf_X3_demand k0.2 (fun s2 k30 => ?_)
    have k3 := k0.trans k30
    exact zj_X7_followLonger_159 k3.2 (fun z q => h z (k3.trans q))
theorem zj_X7_followLonger_123 {x1 : Int32} {σ : zS} {K : zS → Prop} {QX : zS → Prop} (hv : sV σ) (h : ∀ z, tzR σ z → K z) : PX7_followLonger_123 (zQv K) QX x1 σ := by
  have k0 : tzR σ σ := ⟨tzK.rf, hv⟩
  unfold PX7_followLonger_123
  refine ⟨fun c1 => ?_, fun c1 => ?_⟩
  · exact zj_X7_followLonger_137 k0.2 (fun z q => h z (k0.trans q))
  · refine ⟨fun c2 => ?_, fun c2 => ?_⟩
    · exact zj_X7_followLonger_137 k0.2 (fun z q => h z (k0.trans q))
    · exact zj_X7_followLonger_159 k0.2 (fun z q => h z (k0.trans q))
theorem zj_X7_followLonger_101 {x1 : Int32} {σ : zS} {K : zS → Prop} {QX : zS → Prop} (hv : sV σ) (h : ∀ z, tzR σ z → K z) : PX7_followLonger_101 (zQv K) QX x1 σ := by
  have k0 : tzR σ σ := ⟨tzK.rf, hv⟩
  unfold PX7_followLonger_101
  refine ⟨fun c1 => ?_, fun c1 => ?_⟩
  · refine zf_X3_demand k0.2 (fun s1 k20 => ?_)
    have k2 := k0.trans k20
    exact zj_X7_followLonger_123 k2.2 (fun z q => h z (k2.trans q))
  · refine zf_X3_demand k0.2 (fun s2 k30 => ?_)
    have k3 := k0.trans k30
    exact zj_X7_followLonger_123 k3.2 (fun z q => h z (k3.trans q))
theorem zj_X7_followLonger_80 {x1 : Int32} {σ : zS} {K : zS → Prop} {QX : zS → Prop} (hv : sV σ) (h : ∀ z, tzR σ z → K z) : PX7_followLonger_80 (zQv K) QX x1 σ := by
  have k0 : tzR σ σ := ⟨tzK.rf, hv⟩
  unfold PX7_followLonger_80
  refine ⟨fun c1 => ?_, fun c1 => ?_⟩
  · exact zj_X7_followLonger_101 k0.2 (fun z q => h z (k0.trans q))
  · refine ⟨fun c2 => ?_, fun c2 => ?_⟩
    · exact zj_X7_followLonger_101 k0.2 (fun z q => h z (k0.trans q))
    · refine ⟨fun c3 => ?_, fun c3 => ?_⟩
      · exact zj_X7_followLonger_101 k0.2 (fun z q => h z (k0.trans q))
      · exact zj_X7_followLonger_123 k0.2 (fun z q => h z (k0.trans q))
theorem zj_X7_followLonger_52 {x1 : Int32} {x2 : Int64} {σ : zS} {K : zS → Prop} {QX : zS → Prop} (hv : sV σ) (h : ∀ z, tzR σ z → K z) : PX7_followLonger_52 (zQv K) QX x1 x2 σ := by
  have k0 : tzR σ σ := ⟨tzK.rf, hv⟩
  unfold PX7_followLonger_52
  refine ⟨(by unfold vp_in; decide), ?_⟩
  refine ⟨fun c1 => ?_, fun c1 => ?_⟩
  · refine zf_X3_demand k0.2 (fun s1 k20 => ?_)
    have k2 := k0.trans k20
    exact zj_X7_followLonger_80 k2.2 (fun z q => h z (k2.trans q))
  · refine zf_X3_demand k0.2 (fun s2 k30 => ?_)
    have k3 := k0.trans k30
    exact zj_X7_followLonger_80 k3.2 (fun z q => h z (k3.trans q))
theorem zj_X7_followLonger_38 {x1 : Int32} {x2 : Int64} {σ : zS} {K : zS → Prop} {QX : zS → Prop} (hv : sV σ) (h : ∀ z, tzR σ z → K z) : PX7_followLonger_38 (zQv K) QX x1 x2 σ := by
  have k0 : tzR σ σ := ⟨tzK.rf, hv⟩
  unfold PX7_followLonger_38
  refine ⟨fun c1 => ?_, fun c1 => ?_⟩
  · exact zj_X7_followLonger_52 k0.2 (fun z q => h z (k0.trans q))
  · refine ⟨fun c2 => ?_, fun c2 => ?_⟩
    · exact zj_X7_followLonger_52 k0.2 (fun z q => h z (k0.trans q))
    · exact zj_X7_followLonger_80 k0.2 (fun z q => h z (k0.trans q))
theorem zj_X7_followLonger_14 {x1 : Int32} {x2 : Int64} {σ : zS} {K : zS → Prop} {QX : zS → Prop} (hv : sV σ) (h : ∀ z, tzR σ z → K z) : PX7_followLonger_14 (zQv K) QX x1 x2 σ := by
  have k0 : tzR σ σ := ⟨tzK.rf, hv⟩
  unfold PX7_followLonger_14
  refine ⟨fun c1 => ?_, fun c1 => ?_⟩
  · refine zf_X3_demand k0.2 (fun s1 k20 => ?_)
    have k2 := k0.trans k20
    exact zj_X7_followLonger_38 k2.2 (fun z q => h z (k2.trans q))
  · refine zf_X3_demand k0.2 (fun s2 k30 => ?_)
    have k3 := k0.trans k30
    exact zj_X7_followLonger_38 k3.2 (fun z q => h z (k3.trans q))
theorem zr_X7_followFrame_0_0 {s1 : zS} {K : zS → Prop} (hv : sV s1) (h : ∀ z, tzR s1 z → K z) : zQv K none s1 := by
  have k0 : tzR s1 s1 := ⟨tzK.rf, hv⟩
  exact h _ k0
theorem zr_X7_followFrame_0_1 {s2 : zS} {K : zS → Prop} (hv : sV s2) (h : ∀ z, tzR s2 z → K z) : zQv K none s2 := by
  have k0 : tzR s2 s2 := ⟨tzK.rf, hv⟩
  exact h _ k0
theorem zr_X7_followFrame_43_0 {r2 : Int32} {s1 : zS} {K : zS → Prop} {QX : zS → Prop} (hv : sV s1) (h : ∀ z, tzR s1 z → K z) : ((r2 = (4 : Int32) →
        (((1 : Int32) = 0 →
          zCT zZC zmX3_demand [.ref 5, .int (1 : Int32)] s1 (zQv (fun s3 =>
            zCT zZC zmX3_result [.ref 5] s3 (zQi (fun r5 s4 =>
              zCT zZC zmX3_take [.ref 5, .int r5] s4 (zQi (fun r7 s6 =>
                zCT zZC zmX3_isEmpty [.ref 5] s6 (zQi (fun r9 s8 =>
                  zCT zZC zmX3_demand [.ref 5, .int r9] s8 (zQv (fun s10 =>
                    zQv K none s10)) QX)) QX)) QX)) QX)) QX) ∧ (¬ (1 : Int32) = 0 →
          zCT zZC zmX3_result [.ref 5] s1 (zQi (fun r12 s11 =>
            ((r12 = (64 : Int32) →
              zCT zZC zmX3_demand [.ref 5, .int (1 : Int32)] s11 (zQv (fun s13 =>
                zCT zZC zmX3_result [.ref 5] s13 (zQi (fun r15 s14 =>
                  zCT zZC zmX3_take [.ref 5, .int r15] s14 (zQi (fun r17 s16 =>
                    zCT zZC zmX3_isEmpty [.ref 5] s16 (zQi (fun r19 s18 =>
                      zCT zZC zmX3_demand [.ref 5, .int r19] s18 (zQv (fun s20 =>
                        zQv K none s20)) QX)) QX)) QX)) QX)) QX) ∧ (¬ r12 = (64 : Int32) →
              zCT zZC zmX3_demand [.ref 5, .int (0 : Int32)] s11 (zQv (fun s21 =>
                zCT zZC zmX3_result [.ref 5] s21 (zQi (fun r23 s22 =>
                  zCT zZC zmX3_take [.ref 5, .int r23] s22 (zQi (fun r25 s24 =>
                    zCT zZC zmX3_isEmpty [.ref 5] s24 (zQi (fun r27 s26 =>
                      zCT zZC zmX3_demand [.ref 5, .int r27] s26 (zQv (fun s28 =>
                        zQv K none s28)) QX)) QX)) QX)) QX)) QX)))) QX))) ∧ (¬ r2 = (4 : Int32) →
        PX7_followFrame_64 (zQv K) QX s1)) := by
  have k0 : tzR s1 s1 := ⟨tzK.rf, hv⟩
  refine ⟨fun c1 => ?_, fun c1 => ?_⟩
  · refine ⟨fun c2 => ?_, fun c2 => ?_⟩
    · exact absurd c2 (by decide)
    · refine zf_X3_result k0.2 (fun r12 s11 k30 => ?_)
      have k3 := k0.trans k30
      refine ⟨fun c4 => ?_, fun c4 => ?_⟩
      · refine zf_X3_demand k3.2 (fun s13 k50 => ?_)
        have k5 := k3.trans k50
        refine zf_X3_result k5.2 (fun r15 s14 k60 => ?_)
        have k6 := k5.trans k60
        refine zf_X3_take k6.2 (fun r17 s16 k70 => ?_)
        have k7 := k6.trans k70
        refine zf_X3_isEmpty k7.2 (fun r19 s18 b9 k80 => ?_)
        have k8 := k7.trans k80
        refine zf_X3_demand k8.2 (fun s20 k100 => ?_)
        have k10 := k8.trans k100
        exact h _ k10
      · refine zf_X3_demand k3.2 (fun s21 k110 => ?_)
        have k11 := k3.trans k110
        refine zf_X3_result k11.2 (fun r23 s22 k120 => ?_)
        have k12 := k11.trans k120
        refine zf_X3_take k12.2 (fun r25 s24 k130 => ?_)
        have k13 := k12.trans k130
        refine zf_X3_isEmpty k13.2 (fun r27 s26 b15 k140 => ?_)
        have k14 := k13.trans k140
        refine zf_X3_demand k14.2 (fun s28 k160 => ?_)
        have k16 := k14.trans k160
        exact h _ k16
  · unfold PX7_followFrame_64
    refine ⟨fun c18 => ?_, fun c18 => ?_⟩
    · refine zf_X3_demand k0.2 (fun s1_17 k190 => ?_)
      have k19 := k0.trans k190
      refine zf_X3_result k19.2 (fun r3_17 s2_17 k200 => ?_)
      have k20 := k19.trans k200
      refine zf_X3_take k20.2 (fun r5_17 s4_17 k210 => ?_)
      have k21 := k20.trans k210
      refine zf_X3_isEmpty k21.2 (fun r7_17 s6_17 b23 k220 => ?_)
      have k22 := k21.trans k220
      refine zf_X3_demand k22.2 (fun s8_17 k240 => ?_)
      have k24 := k22.trans k240
      exact h _ k24
    · exact absurd (by decide) c18
theorem zr_X7_followFrame_43_1 {s3 : zS} {K : zS → Prop} {QX : zS → Prop} (hv : sV s3) (h : ∀ z, tzR s3 z → K z) : zCT zZC zmX3_result [.ref 5] s3 (zQi (fun r5 s4 =>
              zCT zZC zmX3_take [.ref 5, .int r5] s4 (zQi (fun r7 s6 =>
                zCT zZC zmX3_isEmpty [.ref 5] s6 (zQi (fun r9 s8 =>
                  zCT zZC zmX3_demand [.ref 5, .int r9] s8 (zQv (fun s10 =>
                    zQv K none s10)) QX)) QX)) QX)) QX := by
  have k0 : tzR s3 s3 := ⟨tzK.rf, hv⟩
  refine zf_X3_result k0.2 (fun r5 s4 k10 => ?_)
  have k1 := k0.trans k10
  refine zf_X3_take k1.2 (fun r7 s6 k20 => ?_)
  have k2 := k1.trans k20
  refine zf_X3_isEmpty k2.2 (fun r9 s8 b4 k30 => ?_)
  have k3 := k2.trans k30
  refine zf_X3_demand k3.2 (fun s10 k50 => ?_)
  have k5 := k3.trans k50
  exact h _ k5
theorem zr_X7_followFrame_43_2 {r5 : Int32} {s4 : zS} {K : zS → Prop} {QX : zS → Prop} (hv : sV s4) (h : ∀ z, tzR s4 z → K z) : zCT zZC zmX3_take [.ref 5, .int r5] s4 (zQi (fun r7 s6 =>
                zCT zZC zmX3_isEmpty [.ref 5] s6 (zQi (fun r9 s8 =>
                  zCT zZC zmX3_demand [.ref 5, .int r9] s8 (zQv (fun s10 =>
                    zQv K none s10)) QX)) QX)) QX := by
  have k0 : tzR s4 s4 := ⟨tzK.rf, hv⟩
  refine zf_X3_take k0.2 (fun r7 s6 k10 => ?_)
  have k1 := k0.trans k10
  refine zf_X3_isEmpty k1.2 (fun r9 s8 b3 k20 => ?_)
  have k2 := k1.trans k20
  refine zf_X3_demand k2.2 (fun s10 k40 => ?_)
  have k4 := k2.trans k40
  exact h _ k4
theorem zr_X7_followFrame_43_3 {s6 : zS} {K : zS → Prop} {QX : zS → Prop} (hv : sV s6) (h : ∀ z, tzR s6 z → K z) : zCT zZC zmX3_isEmpty [.ref 5] s6 (zQi (fun r9 s8 =>
                  zCT zZC zmX3_demand [.ref 5, .int r9] s8 (zQv (fun s10 =>
                    zQv K none s10)) QX)) QX := by
  have k0 : tzR s6 s6 := ⟨tzK.rf, hv⟩
  refine zf_X3_isEmpty k0.2 (fun r9 s8 b2 k10 => ?_)
  have k1 := k0.trans k10
  refine zf_X3_demand k1.2 (fun s10 k30 => ?_)
  have k3 := k1.trans k30
  exact h _ k3
theorem zr_X7_followFrame_43_4 {r9 : Int32} {s8 : zS} {K : zS → Prop} {QX : zS → Prop} (hv : sV s8) (h : ∀ z, tzR s8 z → K z) : zCT zZC zmX3_demand [.ref 5, .int r9] s8 (zQv (fun s10 =>
                    zQv K none s10)) QX := by
  have k0 : tzR s8 s8 := ⟨tzK.rf, hv⟩
  refine zf_X3_demand k0.2 (fun s10 k10 => ?_)
  have k1 := k0.trans k10
  exact h _ k1
theorem zr_X7_followFrame_43_5 {s10 : zS} {K : zS → Prop} (hv : sV s10) (h : ∀ z, tzR s10 z → K z) : zQv K none s10 := by
  have k0 : tzR s10 s10 := ⟨tzK.rf, hv⟩
  exact h _ k0
theorem zr_X7_followFrame_43_6 {r12 : Int32} {s11 : zS} {K : zS → Prop} {QX : zS → Prop} (hv : sV s11) (h : ∀ z, tzR s11 z → K z) : ((r12 = (64 : Int32) →
              zCT zZC zmX3_demand [.ref 5, .int (1 : Int32)] s11 (zQv (fun s13 =>
                zCT zZC zmX3_result [.ref 5] s13 (zQi (fun r15 s14 =>
                  zCT zZC zmX3_take [.ref 5, .int r15] s14 (zQi (fun r17 s16 =>
                    zCT zZC zmX3_isEmpty [.ref 5] s16 (zQi (fun r19 s18 =>
                      zCT zZC zmX3_demand [.ref 5, .int r19] s18 (zQv (fun s20 =>
                        zQv K none s20)) QX)) QX)) QX)) QX)) QX) ∧ (¬ r12 = (64 : Int32) →
              zCT zZC zmX3_demand [.ref 5, .int (0 : Int32)] s11 (zQv (fun s21 =>
                zCT zZC zmX3_result [.ref 5] s21 (zQi (fun r23 s22 =>
                  zCT zZC zmX3_take [.ref 5, .int r23] s22 (zQi (fun r25 s24 =>
                    zCT zZC zmX3_isEmpty [.ref 5] s24 (zQi (fun r27 s26 =>
                      zCT zZC zmX3_demand [.ref 5, .int r27] s26 (zQv (fun s28 =>
                        zQv K none s28)) QX)) QX)) QX)) QX)) QX)) := by
  have k0 : tzR s11 s11 := ⟨tzK.rf, hv⟩
  refine ⟨fun c1 => ?_, fun c1 => ?_⟩
  · refine zf_X3_demand k0.2 (fun s13 k20 => ?_)
    have k2 := k0.trans k20
    refine zf_X3_result k2.2 (fun r15 s14 k30 => ?_)
    have k3 := k2.trans k30
    refine zf_X3_take k3.2 (fun r17 s16 k40 => ?_)
    have k4 := k3.trans k40
    refine zf_X3_isEmpty k4.2 (fun r19 s18 b6 k50 => ?_)
    have k5 := k4.trans k50
    refine zf_X3_demand k5.2 (fun s20 k70 => ?_)
    have k7 := k5.trans k70
    exact h _ k7
  · refine zf_X3_demand k0.2 (fun s21 k80 => ?_)
    have k8 := k0.trans k80
    refine zf_X3_result k8.2 (fun r23 s22 k90 => ?_)
    have k9 := k8.trans k90
    refine zf_X3_take k9.2 (fun r25 s24 k100 => ?_)
    have k10 := k9.trans k100
    refine zf_X3_isEmpty k10.2 (fun r27 s26 b12 k110 => ?_)
    have k11 := k10.trans k110
    refine zf_X3_demand k11.2 (fun s28 k130 => ?_)
    have k13 := k11.trans k130
    exact h _ k13
theorem zr_X7_followFrame_43_7 {s13 : zS} {K : zS → Prop} {QX : zS → Prop} (hv : sV s13) (h : ∀ z, tzR s13 z → K z) : zCT zZC zmX3_result [.ref 5] s13 (zQi (fun r15 s14 =>
                  zCT zZC zmX3_take [.ref 5, .int r15] s14 (zQi (fun r17 s16 =>
                    zCT zZC zmX3_isEmpty [.ref 5] s16 (zQi (fun r19 s18 =>
                      zCT zZC zmX3_demand [.ref 5, .int r19] s18 (zQv (fun s20 =>
                        zQv K none s20)) QX)) QX)) QX)) QX := by
  have k0 : tzR s13 s13 := ⟨tzK.rf, hv⟩
  refine zf_X3_result k0.2 (fun r15 s14 k10 => ?_)
  have k1 := k0.trans k10
  refine zf_X3_take k1.2 (fun r17 s16 k20 => ?_)
  have k2 := k1.trans k20
  refine zf_X3_isEmpty k2.2 (fun r19 s18 b4 k30 => ?_)
  have k3 := k2.trans k30
  refine zf_X3_demand k3.2 (fun s20 k50 => ?_)
  have k5 := k3.trans k50
  exact h _ k5
theorem zr_X7_followFrame_43_8 {r15 : Int32} {s14 : zS} {K : zS → Prop} {QX : zS → Prop} (hv : sV s14) (h : ∀ z, tzR s14 z → K z) : zCT zZC zmX3_take [.ref 5, .int r15] s14 (zQi (fun r17 s16 =>
                    zCT zZC zmX3_isEmpty [.ref 5] s16 (zQi (fun r19 s18 =>
                      zCT zZC zmX3_demand [.ref 5, .int r19] s18 (zQv (fun s20 =>
                        zQv K none s20)) QX)) QX)) QX := by
  have k0 : tzR s14 s14 := ⟨tzK.rf, hv⟩
  refine zf_X3_take k0.2 (fun r17 s16 k10 => ?_)
  have k1 := k0.trans k10
  refine zf_X3_isEmpty k1.2 (fun r19 s18 b3 k20 => ?_)
  have k2 := k1.trans k20
  refine zf_X3_demand k2.2 (fun s20 k40 => ?_)
  have k4 := k2.trans k40
  exact h _ k4
theorem zr_X7_followFrame_43_9 {s16 : zS} {K : zS → Prop} {QX : zS → Prop} (hv : sV s16) (h : ∀ z, tzR s16 z → K z) : zCT zZC zmX3_isEmpty [.ref 5] s16 (zQi (fun r19 s18 =>
                      zCT zZC zmX3_demand [.ref 5, .int r19] s18 (zQv (fun s20 =>
                        zQv K none s20)) QX)) QX := by
  have k0 : tzR s16 s16 := ⟨tzK.rf, hv⟩
  refine zf_X3_isEmpty k0.2 (fun r19 s18 b2 k10 => ?_)
  have k1 := k0.trans k10
  refine zf_X3_demand k1.2 (fun s20 k30 => ?_)
  have k3 := k1.trans k30
  exact h _ k3
theorem zr_X7_followFrame_43_10 {r19 : Int32} {s18 : zS} {K : zS → Prop} {QX : zS → Prop} (hv : sV s18) (h : ∀ z, tzR s18 z → K z) : zCT zZC zmX3_demand [.ref 5, .int r19] s18 (zQv (fun s20 =>
                        zQv K none s20)) QX := by
  have k0 : tzR s18 s18 := ⟨tzK.rf, hv⟩
  refine zf_X3_demand k0.2 (fun s20 k10 => ?_)
  have k1 := k0.trans k10
  exact h _ k1
theorem zr_X7_followFrame_43_11 {s20 : zS} {K : zS → Prop} (hv : sV s20) (h : ∀ z, tzR s20 z → K z) : zQv K none s20 := by
  have k0 : tzR s20 s20 := ⟨tzK.rf, hv⟩
  exact h _ k0
theorem zr_X7_followFrame_43_12 {s21 : zS} {K : zS → Prop} {QX : zS → Prop} (hv : sV s21) (h : ∀ z, tzR s21 z → K z) : zCT zZC zmX3_result [.ref 5] s21 (zQi (fun r23 s22 =>
                  zCT zZC zmX3_take [.ref 5, .int r23] s22 (zQi (fun r25 s24 =>
                    zCT zZC zmX3_isEmpty [.ref 5] s24 (zQi (fun r27 s26 =>
                      zCT zZC zmX3_demand [.ref 5, .int r27] s26 (zQv (fun s28 =>
                        zQv K none s28)) QX)) QX)) QX)) QX := by
  have k0 : tzR s21 s21 := ⟨tzK.rf, hv⟩
  refine zf_X3_result k0.2 (fun r23 s22 k10 => ?_)
  have k1 := k0.trans k10
  refine zf_X3_take k1.2 (fun r25 s24 k20 => ?_)
  have k2 := k1.trans k20
  refine zf_X3_isEmpty k2.2 (fun r27 s26 b4 k30 => ?_)
  have k3 := k2.trans k30
  refine zf_X3_demand k3.2 (fun s28 k50 => ?_)
  have k5 := k3.trans k50
  exact h _ k5
theorem zr_X7_followFrame_43_13 {r23 : Int32} {s22 : zS} {K : zS → Prop} {QX : zS → Prop} (hv : sV s22) (h : ∀ z, tzR s22 z → K z) : zCT zZC zmX3_take [.ref 5, .int r23] s22 (zQi (fun r25 s24 =>
                    zCT zZC zmX3_isEmpty [.ref 5] s24 (zQi (fun r27 s26 =>
                      zCT zZC zmX3_demand [.ref 5, .int r27] s26 (zQv (fun s28 =>
                        zQv K none s28)) QX)) QX)) QX := by
  have k0 : tzR s22 s22 := ⟨tzK.rf, hv⟩
  refine zf_X3_take k0.2 (fun r25 s24 k10 => ?_)
  have k1 := k0.trans k10
  refine zf_X3_isEmpty k1.2 (fun r27 s26 b3 k20 => ?_)
  have k2 := k1.trans k20
  refine zf_X3_demand k2.2 (fun s28 k40 => ?_)
  have k4 := k2.trans k40
  exact h _ k4
theorem zr_X7_followFrame_43_14 {s24 : zS} {K : zS → Prop} {QX : zS → Prop} (hv : sV s24) (h : ∀ z, tzR s24 z → K z) : zCT zZC zmX3_isEmpty [.ref 5] s24 (zQi (fun r27 s26 =>
                      zCT zZC zmX3_demand [.ref 5, .int r27] s26 (zQv (fun s28 =>
                        zQv K none s28)) QX)) QX := by
  have k0 : tzR s24 s24 := ⟨tzK.rf, hv⟩
  refine zf_X3_isEmpty k0.2 (fun r27 s26 b2 k10 => ?_)
  have k1 := k0.trans k10
  refine zf_X3_demand k1.2 (fun s28 k30 => ?_)
  have k3 := k1.trans k30
  exact h _ k3
theorem zr_X7_followFrame_43_15 {r27 : Int32} {s26 : zS} {K : zS → Prop} {QX : zS → Prop} (hv : sV s26) (h : ∀ z, tzR s26 z → K z) : zCT zZC zmX3_demand [.ref 5, .int r27] s26 (zQv (fun s28 =>
                        zQv K none s28)) QX := by
  have k0 : tzR s26 s26 := ⟨tzK.rf, hv⟩
  refine zf_X3_demand k0.2 (fun s28 k10 => ?_)
  have k1 := k0.trans k10
  exact h _ k1
theorem zr_X7_followFrame_43_16 {s28 : zS} {K : zS → Prop} (hv : sV s28) (h : ∀ z, tzR s28 z → K z) : zQv K none s28 := by
  have k0 : tzR s28 s28 := ⟨tzK.rf, hv⟩
  exact h _ k0
theorem zr_X7_followFrame_64_0 {s1 : zS} {K : zS → Prop} {QX : zS → Prop} (hv : sV s1) (h : ∀ z, tzR s1 z → K z) : zCT zZC zmX3_result [.ref 5] s1 (zQi (fun r3 s2 =>
        zCT zZC zmX3_take [.ref 5, .int r3] s2 (zQi (fun r5 s4 =>
          zCT zZC zmX3_isEmpty [.ref 5] s4 (zQi (fun r7 s6 =>
            zCT zZC zmX3_demand [.ref 5, .int r7] s6 (zQv (fun s8 =>
              zQv K none s8)) QX)) QX)) QX)) QX := by
  have k0 : tzR s1 s1 := ⟨tzK.rf, hv⟩
  refine zf_X3_result k0.2 (fun r3 s2 k10 => ?_)
  have k1 := k0.trans k10
  refine zf_X3_take k1.2 (fun r5 s4 k20 => ?_)
  have k2 := k1.trans k20
  refine zf_X3_isEmpty k2.2 (fun r7 s6 b4 k30 => ?_)
  have k3 := k2.trans k30
  refine zf_X3_demand k3.2 (fun s8 k50 => ?_)
  have k5 := k3.trans k50
  exact h _ k5
theorem zr_X7_followFrame_64_1 {r3 : Int32} {s2 : zS} {K : zS → Prop} {QX : zS → Prop} (hv : sV s2) (h : ∀ z, tzR s2 z → K z) : zCT zZC zmX3_take [.ref 5, .int r3] s2 (zQi (fun r5 s4 =>
          zCT zZC zmX3_isEmpty [.ref 5] s4 (zQi (fun r7 s6 =>
            zCT zZC zmX3_demand [.ref 5, .int r7] s6 (zQv (fun s8 =>
              zQv K none s8)) QX)) QX)) QX := by
  have k0 : tzR s2 s2 := ⟨tzK.rf, hv⟩
  refine zf_X3_take k0.2 (fun r5 s4 k10 => ?_)
  have k1 := k0.trans k10
  refine zf_X3_isEmpty k1.2 (fun r7 s6 b3 k20 => ?_)
  have k2 := k1.trans k20
  refine zf_X3_demand k2.2 (fun s8 k40 => ?_)
  have k4 := k2.trans k40
  exact h _ k4
theorem zr_X7_followFrame_64_2 {s4 : zS} {K : zS → Prop} {QX : zS → Prop} (hv : sV s4) (h : ∀ z, tzR s4 z → K z) : zCT zZC zmX3_isEmpty [.ref 5] s4 (zQi (fun r7 s6 =>
            zCT zZC zmX3_demand [.ref 5, .int r7] s6 (zQv (fun s8 =>
              zQv K none s8)) QX)) QX := by
  have k0 : tzR s4 s4 := ⟨tzK.rf, hv⟩
  refine zf_X3_isEmpty k0.2 (fun r7 s6 b2 k10 => ?_)
  have k1 := k0.trans k10
  refine zf_X3_demand k1.2 (fun s8 k30 => ?_)
  have k3 := k1.trans k30
  exact h _ k3
theorem zr_X7_followFrame_64_3 {r7 : Int32} {s6 : zS} {K : zS → Prop} {QX : zS → Prop} (hv : sV s6) (h : ∀ z, tzR s6 z → K z) : zCT zZC zmX3_demand [.ref 5, .int r7] s6 (zQv (fun s8 =>
              zQv K none s8)) QX := by
  have k0 : tzR s6 s6 := ⟨tzK.rf, hv⟩
  refine zf_X3_demand k0.2 (fun s8 k10 => ?_)
  have k1 := k0.trans k10
  exact h _ k1
theorem zr_X7_followFrame_64_4 {s8 : zS} {K : zS → Prop} (hv : sV s8) (h : ∀ z, tzR s8 z → K z) : zQv K none s8 := by
  have k0 : tzR s8 s8 := ⟨tzK.rf, hv⟩
  exact h _ k0
theorem zr_X7_followFrame_64_5 {r10 : Int32} {s9 : zS} {K : zS → Prop} {QX : zS → Prop} (hv : sV s9) (h : ∀ z, tzR s9 z → K z) : ((r10 = (64 : Int32) →
        zCT zZC zmX3_demand [.ref 5, .int (1 : Int32)] s9 (zQv (fun s11 =>
          zCT zZC zmX3_result [.ref 5] s11 (zQi (fun r13 s12 =>
            zCT zZC zmX3_take [.ref 5, .int r13] s12 (zQi (fun r15 s14 =>
              zCT zZC zmX3_isEmpty [.ref 5] s14 (zQi (fun r17 s16 =>
                zCT zZC zmX3_demand [.ref 5, .int r17] s16 (zQv (fun s18 =>
                  zQv K none s18)) QX)) QX)) QX)) QX)) QX) ∧ (¬ r10 = (64 : Int32) →
        zCT zZC zmX3_demand [.ref 5, .int (0 : Int32)] s9 (zQv (fun s19 =>
          zCT zZC zmX3_result [.ref 5] s19 (zQi (fun r21 s20 =>
            zCT zZC zmX3_take [.ref 5, .int r21] s20 (zQi (fun r23 s22 =>
              zCT zZC zmX3_isEmpty [.ref 5] s22 (zQi (fun r25 s24 =>
                zCT zZC zmX3_demand [.ref 5, .int r25] s24 (zQv (fun s26 =>
                  zQv K none s26)) QX)) QX)) QX)) QX)) QX)) := by
  have k0 : tzR s9 s9 := ⟨tzK.rf, hv⟩
  refine ⟨fun c1 => ?_, fun c1 => ?_⟩
  · refine zf_X3_demand k0.2 (fun s11 k20 => ?_)
    have k2 := k0.trans k20
    refine zf_X3_result k2.2 (fun r13 s12 k30 => ?_)
    have k3 := k2.trans k30
    refine zf_X3_take k3.2 (fun r15 s14 k40 => ?_)
    have k4 := k3.trans k40
    refine zf_X3_isEmpty k4.2 (fun r17 s16 b6 k50 => ?_)
    have k5 := k4.trans k50
    refine zf_X3_demand k5.2 (fun s18 k70 => ?_)
    have k7 := k5.trans k70
    exact h _ k7
  · refine zf_X3_demand k0.2 (fun s19 k80 => ?_)
    have k8 := k0.trans k80
    refine zf_X3_result k8.2 (fun r21 s20 k90 => ?_)
    have k9 := k8.trans k90
    refine zf_X3_take k9.2 (fun r23 s22 k100 => ?_)
    have k10 := k9.trans k100
    refine zf_X3_isEmpty k10.2 (fun r25 s24 b12 k110 => ?_)
    have k11 := k10.trans k110
    refine zf_X3_demand k11.2 (fun s26 k130 => ?_)
    have k13 := k11.trans k130
    exact h _ k13
theorem zr_X7_followFrame_64_6 {s11 : zS} {K : zS → Prop} {QX : zS → Prop} (hv : sV s11) (h : ∀ z, tzR s11 z → K z) : zCT zZC zmX3_result [.ref 5] s11 (zQi (fun r13 s12 =>
            zCT zZC zmX3_take [.ref 5, .int r13] s12 (zQi (fun r15 s14 =>
              zCT zZC zmX3_isEmpty [.ref 5] s14 (zQi (fun r17 s16 =>
                zCT zZC zmX3_demand [.ref 5, .int r17] s16 (zQv (fun s18 =>
                  zQv K none s18)) QX)) QX)) QX)) QX := by
  have k0 : tzR s11 s11 := ⟨tzK.rf, hv⟩
  refine zf_X3_result k0.2 (fun r13 s12 k10 => ?_)
  have k1 := k0.trans k10
  refine zf_X3_take k1.2 (fun r15 s14 k20 => ?_)
  have k2 := k1.trans k20
  refine zf_X3_isEmpty k2.2 (fun r17 s16 b4 k30 => ?_)
  have k3 := k2.trans k30
  refine zf_X3_demand k3.2 (fun s18 k50 => ?_)
  have k5 := k3.trans k50
  exact h _ k5
theorem zr_X7_followFrame_64_7 {r13 : Int32} {s12 : zS} {K : zS → Prop} {QX : zS → Prop} (hv : sV s12) (h : ∀ z, tzR s12 z → K z) : zCT zZC zmX3_take [.ref 5, .int r13] s12 (zQi (fun r15 s14 =>
              zCT zZC zmX3_isEmpty [.ref 5] s14 (zQi (fun r17 s16 =>
                zCT zZC zmX3_demand [.ref 5, .int r17] s16 (zQv (fun s18 =>
                  zQv K none s18)) QX)) QX)) QX := by
  have k0 : tzR s12 s12 := ⟨tzK.rf, hv⟩
  refine zf_X3_take k0.2 (fun r15 s14 k10 => ?_)
  have k1 := k0.trans k10
  refine zf_X3_isEmpty k1.2 (fun r17 s16 b3 k20 => ?_)
  have k2 := k1.trans k20
  refine zf_X3_demand k2.2 (fun s18 k40 => ?_)
  have k4 := k2.trans k40
  exact h _ k4
theorem zr_X7_followFrame_64_8 {s14 : zS} {K : zS → Prop} {QX : zS → Prop} (hv : sV s14) (h : ∀ z, tzR s14 z → K z) : zCT zZC zmX3_isEmpty [.ref 5] s14 (zQi (fun r17 s16 =>
                zCT zZC zmX3_demand [.ref 5, .int r17] s16 (zQv (fun s18 =>
                  zQv K none s18)) QX)) QX := by
  have k0 : tzR s14 s14 := ⟨tzK.rf, hv⟩
  refine zf_X3_isEmpty k0.2 (fun r17 s16 b2 k10 => ?_)
  have k1 := k0.trans k10
  refine zf_X3_demand k1.2 (fun s18 k30 => ?_)
  have k3 := k1.trans k30
  exact h _ k3
theorem zr_X7_followFrame_64_9 {r17 : Int32} {s16 : zS} {K : zS → Prop} {QX : zS → Prop} (hv : sV s16) (h : ∀ z, tzR s16 z → K z) : zCT zZC zmX3_demand [.ref 5, .int r17] s16 (zQv (fun s18 =>
                  zQv K none s18)) QX := by
  have k0 : tzR s16 s16 := ⟨tzK.rf, hv⟩
  refine zf_X3_demand k0.2 (fun s18 k10 => ?_)
  have k1 := k0.trans k10
  exact h _ k1
theorem zr_X7_followFrame_64_10 {s18 : zS} {K : zS → Prop} (hv : sV s18) (h : ∀ z, tzR s18 z → K z) : zQv K none s18 := by
  have k0 : tzR s18 s18 := ⟨tzK.rf, hv⟩
  exact h _ k0
theorem zr_X7_followFrame_64_11 {s19 : zS} {K : zS → Prop} {QX : zS → Prop} (hv : sV s19) (h : ∀ z, tzR s19 z → K z) : zCT zZC zmX3_result [.ref 5] s19 (zQi (fun r21 s20 =>
            zCT zZC zmX3_take [.ref 5, .int r21] s20 (zQi (fun r23 s22 =>
              zCT zZC zmX3_isEmpty [.ref 5] s22 (zQi (fun r25 s24 =>
                zCT zZC zmX3_demand [.ref 5, .int r25] s24 (zQv (fun s26 =>
                  zQv K none s26)) QX)) QX)) QX)) QX := by
  have k0 : tzR s19 s19 := ⟨tzK.rf, hv⟩
  refine zf_X3_result k0.2 (fun r21 s20 k10 => ?_)
  have k1 := k0.trans k10
  refine zf_X3_take k1.2 (fun r23 s22 k20 => ?_)
  have k2 := k1.trans k20
  refine zf_X3_isEmpty k2.2 (fun r25 s24 b4 k30 => ?_)
  have k3 := k2.trans k30
  refine zf_X3_demand k3.2 (fun s26 k50 => ?_)
  have k5 := k3.trans k50
  exact h _ k5
theorem zr_X7_followFrame_64_12 {r21 : Int32} {s20 : zS} {K : zS → Prop} {QX : zS → Prop} (hv : sV s20) (h : ∀ z, tzR s20 z → K z) : zCT zZC zmX3_take [.ref 5, .int r21] s20 (zQi (fun r23 s22 =>
              zCT zZC zmX3_isEmpty [.ref 5] s22 (zQi (fun r25 s24 =>
                zCT zZC zmX3_demand [.ref 5, .int r25] s24 (zQv (fun s26 =>
                  zQv K none s26)) QX)) QX)) QX := by
  have k0 : tzR s20 s20 := ⟨tzK.rf, hv⟩
  refine zf_X3_take k0.2 (fun r23 s22 k10 => ?_)
  have k1 := k0.trans k10
  refine zf_X3_isEmpty k1.2 (fun r25 s24 b3 k20 => ?_)
  have k2 := k1.trans k20
  refine zf_X3_demand k2.2 (fun s26 k40 => ?_)
  have k4 := k2.trans k40
  exact h _ k4
theorem zr_X7_followFrame_64_13 {s22 : zS} {K : zS → Prop} {QX : zS → Prop} (hv : sV s22) (h : ∀ z, tzR s22 z → K z) : zCT zZC zmX3_isEmpty [.ref 5] s22 (zQi (fun r25 s24 =>
                zCT zZC zmX3_demand [.ref 5, .int r25] s24 (zQv (fun s26 =>
                  zQv K none s26)) QX)) QX := by
  have k0 : tzR s22 s22 := ⟨tzK.rf, hv⟩
  refine zf_X3_isEmpty k0.2 (fun r25 s24 b2 k10 => ?_)
  have k1 := k0.trans k10
  refine zf_X3_demand k1.2 (fun s26 k30 => ?_)
  have k3 := k1.trans k30
  exact h _ k3
theorem zr_X7_followFrame_64_14 {r25 : Int32} {s24 : zS} {K : zS → Prop} {QX : zS → Prop} (hv : sV s24) (h : ∀ z, tzR s24 z → K z) : zCT zZC zmX3_demand [.ref 5, .int r25] s24 (zQv (fun s26 =>
                  zQv K none s26)) QX := by
  have k0 : tzR s24 s24 := ⟨tzK.rf, hv⟩
  refine zf_X3_demand k0.2 (fun s26 k10 => ?_)
  have k1 := k0.trans k10
  exact h _ k1
theorem zr_X7_followFrame_64_15 {s26 : zS} {K : zS → Prop} (hv : sV s26) (h : ∀ z, tzR s26 z → K z) : zQv K none s26 := by
  have k0 : tzR s26 s26 := ⟨tzK.rf, hv⟩
  exact h _ k0
theorem zr_X7_followTable_0_0 {s1 : zS} {K15 : Int32 → Int32 → zS → Prop} {K : zS → Prop} (hv : sV s1) (h : ∀ z, tzR s1 z → K z) (hK0 : ∀ (z : zS), tzR s1 z → K15 (64 : Int32) (0 : Int32) z) : K15 (64 : Int32) (0 : Int32) s1 := by
  have k0 : tzR s1 s1 := ⟨tzK.rf, hv⟩
  exact hK0  _ k0
theorem zr_X7_followTable_15_0 {s1 : zS} {K : zS → Prop} {QX : zS → Prop} (hv : sV s1) (h : ∀ z, tzR s1 z → K z) : zCT zZC zmX3_forget [.ref 5] s1 (zQv (fun s3 =>
        zQv K none s3)) QX := by
  have k0 : tzR s1 s1 := ⟨tzK.rf, hv⟩
  refine zf_X3_forget k0.2 (fun s3 k10 => ?_)
  have k1 := k0.trans k10
  exact h _ k1
theorem zr_X7_followTable_15_1 {s3 : zS} {K : zS → Prop} (hv : sV s3) (h : ∀ z, tzR s3 z → K z) : zQv K none s3 := by
  have k0 : tzR s3 s3 := ⟨tzK.rf, hv⟩
  exact h _ k0
theorem zr_X7_followTable_15_2 {s4 : zS} {K : zS → Prop} {QX : zS → Prop} (hv : sV s4) (h : ∀ z, tzR s4 z → K z) : zCT zZC zmX3_forget [.ref 5] s4 (zQv (fun s6 =>
          zQv K none s6)) QX := by
  have k0 : tzR s4 s4 := ⟨tzK.rf, hv⟩
  refine zf_X3_forget k0.2 (fun s6 k10 => ?_)
  have k1 := k0.trans k10
  exact h _ k1
theorem zr_X7_followTable_15_3 {s6 : zS} {K : zS → Prop} (hv : sV s6) (h : ∀ z, tzR s6 z → K z) : zQv K none s6 := by
  have k0 : tzR s6 s6 := ⟨tzK.rf, hv⟩
  exact h _ k0
theorem zr_X7_followTable_15_4 {r8 : Int32} {x2 : Int32} {x3 : Int32} {s7 : zS} {K15 : Int32 → Int32 → zS → Prop} {K : zS → Prop} {QX : zS → Prop} (hv : sV s7) (h : ∀ z, tzR s7 z → K z) (hK0 : ∀ (z : zS), tzR s7 z → K15 r8 (x3 + 1) z) : ((x3 = 0 →
          zCT zZC zmX3_demand [.ref 5, .int (1 : Int32)] s7 (zQv (fun s9 =>
            K15 r8 (x3 + 1) s9)) QX) ∧ (¬ x3 = 0 →
          ((r8 = x2 →
            zCT zZC zmX3_demand [.ref 5, .int (1 : Int32)] s7 (zQv (fun s10 =>
              K15 r8 (x3 + 1) s10)) QX) ∧ (¬ r8 = x2 →
            zCT zZC zmX3_demand [.ref 5, .int (0 : Int32)] s7 (zQv (fun s11 =>
              K15 r8 (x3 + 1) s11)) QX)))) := by
  have k0 : tzR s7 s7 := ⟨tzK.rf, hv⟩
  refine ⟨fun c1 => ?_, fun c1 => ?_⟩
  · refine zf_X3_demand k0.2 (fun s9 k20 => ?_)
    have k2 := k0.trans k20
    exact hK0  _ k2
  · refine ⟨fun c3 => ?_, fun c3 => ?_⟩
    · refine zf_X3_demand k0.2 (fun s10 k40 => ?_)
      have k4 := k0.trans k40
      exact hK0  _ k4
    · refine zf_X3_demand k0.2 (fun s11 k50 => ?_)
      have k5 := k0.trans k50
      exact hK0  _ k5
theorem zr_X7_followTable_15_5 {r8 : Int32} {x3 : Int32} {s9 : zS} {K15 : Int32 → Int32 → zS → Prop} {K : zS → Prop} (hv : sV s9) (h : ∀ z, tzR s9 z → K z) (hK0 : ∀ (z : zS), tzR s9 z → K15 r8 (x3 + 1) z) : K15 r8 (x3 + 1) s9 := by
  have k0 : tzR s9 s9 := ⟨tzK.rf, hv⟩
  exact hK0  _ k0
theorem zr_X7_followTable_15_6 {r8 : Int32} {x3 : Int32} {s10 : zS} {K15 : Int32 → Int32 → zS → Prop} {K : zS → Prop} (hv : sV s10) (h : ∀ z, tzR s10 z → K z) (hK0 : ∀ (z : zS), tzR s10 z → K15 r8 (x3 + 1) z) : K15 r8 (x3 + 1) s10 := by
  have k0 : tzR s10 s10 := ⟨tzK.rf, hv⟩
  exact hK0  _ k0
theorem zr_X7_followTable_15_7 {r8 : Int32} {x3 : Int32} {s11 : zS} {K15 : Int32 → Int32 → zS → Prop} {K : zS → Prop} (hv : sV s11) (h : ∀ z, tzR s11 z → K z) (hK0 : ∀ (z : zS), tzR s11 z → K15 r8 (x3 + 1) z) : K15 r8 (x3 + 1) s11 := by
  have k0 : tzR s11 s11 := ⟨tzK.rf, hv⟩
  exact hK0  _ k0
theorem zr_X7_followLeap_0_0 {r2 : Int32} {s1 : zS} {K : zS → Prop} {QX : zS → Prop} (hv : sV s1) (h : ∀ z, tzR s1 z → K z) : zCT zZC zmX3_take [.ref 5, .int r2] s1 (zQi (fun r4 s3 =>
        zCT zZC zmX3_forget [.ref 5] s3 (zQv (fun s5 =>
          zQv K none s5)) QX)) QX := by
  have k0 : tzR s1 s1 := ⟨tzK.rf, hv⟩
  refine zf_X3_take k0.2 (fun r4 s3 k10 => ?_)
  have k1 := k0.trans k10
  refine zf_X3_forget k1.2 (fun s5 k20 => ?_)
  have k2 := k1.trans k20
  exact h _ k2
theorem zr_X7_followLeap_0_1 {s3 : zS} {K : zS → Prop} {QX : zS → Prop} (hv : sV s3) (h : ∀ z, tzR s3 z → K z) : zCT zZC zmX3_forget [.ref 5] s3 (zQv (fun s5 =>
          zQv K none s5)) QX := by
  have k0 : tzR s3 s3 := ⟨tzK.rf, hv⟩
  refine zf_X3_forget k0.2 (fun s5 k10 => ?_)
  have k1 := k0.trans k10
  exact h _ k1
theorem zr_X7_followLeap_0_2 {s5 : zS} {K : zS → Prop} (hv : sV s5) (h : ∀ z, tzR s5 z → K z) : zQv K none s5 := by
  have k0 : tzR s5 s5 := ⟨tzK.rf, hv⟩
  exact h _ k0
theorem zr_X7_followLeap_0_3 {a1 : Int32} {r7 : Int32} {s6 : zS} {K : zS → Prop} {QX : zS → Prop} (hv : sV s6) (h : ∀ z, tzR s6 z → K z) : ((a1 = (13 : Int32) →
        zCT zZC zmX3_take [.ref 5, .int (127 : Int32)] s6 (zQi (fun r9 s8 =>
          zCT zZC zmX3_take [.ref 5, .int r7] s8 (zQi (fun r11 s10 =>
            zCT zZC zmX3_leave [.ref 5, .int r7] s10 (zQv (fun s12 =>
              zQv K none s12)) QX)) QX)) QX) ∧ (¬ a1 = (13 : Int32) →
        zCT zZC zmX3_take [.ref 5, .int r7] s6 (zQi (fun r14 s13 =>
          zCT zZC zmX3_forget [.ref 5] s13 (zQv (fun s15 =>
            zQv K none s15)) QX)) QX)) := by
  have k0 : tzR s6 s6 := ⟨tzK.rf, hv⟩
  refine ⟨fun c1 => ?_, fun c1 => ?_⟩
  · refine zf_X3_take k0.2 (fun r9 s8 k20 => ?_)
    have k2 := k0.trans k20
    refine zf_X3_take k2.2 (fun r11 s10 k30 => ?_)
    have k3 := k2.trans k30
    refine zf_X3_leave k3.2 (fun s12 k40 => ?_)
    have k4 := k3.trans k40
    exact h _ k4
  · refine zf_X3_take k0.2 (fun r14 s13 k50 => ?_)
    have k5 := k0.trans k50
    refine zf_X3_forget k5.2 (fun s15 k60 => ?_)
    have k6 := k5.trans k60
    exact h _ k6
theorem zr_X7_followLeap_0_4 {r7 : Int32} {s8 : zS} {K : zS → Prop} {QX : zS → Prop} (hv : sV s8) (h : ∀ z, tzR s8 z → K z) : zCT zZC zmX3_take [.ref 5, .int r7] s8 (zQi (fun r11 s10 =>
            zCT zZC zmX3_leave [.ref 5, .int r7] s10 (zQv (fun s12 =>
              zQv K none s12)) QX)) QX := by
  have k0 : tzR s8 s8 := ⟨tzK.rf, hv⟩
  refine zf_X3_take k0.2 (fun r11 s10 k10 => ?_)
  have k1 := k0.trans k10
  refine zf_X3_leave k1.2 (fun s12 k20 => ?_)
  have k2 := k1.trans k20
  exact h _ k2
theorem zr_X7_followLeap_0_5 {r7 : Int32} {s10 : zS} {K : zS → Prop} {QX : zS → Prop} (hv : sV s10) (h : ∀ z, tzR s10 z → K z) : zCT zZC zmX3_leave [.ref 5, .int r7] s10 (zQv (fun s12 =>
              zQv K none s12)) QX := by
  have k0 : tzR s10 s10 := ⟨tzK.rf, hv⟩
  refine zf_X3_leave k0.2 (fun s12 k10 => ?_)
  have k1 := k0.trans k10
  exact h _ k1
theorem zr_X7_followLeap_0_6 {s12 : zS} {K : zS → Prop} (hv : sV s12) (h : ∀ z, tzR s12 z → K z) : zQv K none s12 := by
  have k0 : tzR s12 s12 := ⟨tzK.rf, hv⟩
  exact h _ k0
theorem zr_X7_followLeap_0_7 {s13 : zS} {K : zS → Prop} {QX : zS → Prop} (hv : sV s13) (h : ∀ z, tzR s13 z → K z) : zCT zZC zmX3_forget [.ref 5] s13 (zQv (fun s15 =>
            zQv K none s15)) QX := by
  have k0 : tzR s13 s13 := ⟨tzK.rf, hv⟩
  refine zf_X3_forget k0.2 (fun s15 k10 => ?_)
  have k1 := k0.trans k10
  exact h _ k1
theorem zr_X7_followLeap_0_8 {s15 : zS} {K : zS → Prop} (hv : sV s15) (h : ∀ z, tzR s15 z → K z) : zQv K none s15 := by
  have k0 : tzR s15 s15 := ⟨tzK.rf, hv⟩
  exact h _ k0
theorem zr_X7_followCall_0_0 {r2 : Int32} {s1 : zS} {K107 : Int32 → Int32 → zS → Prop} {K : zS → Prop} {QX : zS → Prop} (hv : sV s1) (h : ∀ z, tzR s1 z → K z) (hK0 : ∀ (q0 : Int32) (z : zS), tzR s1 z → K107 r2 (q0 - (1 : Int32)) z) : PX7_followCall_77 K107 (zQv K) QX r2 s1 := by
  have k0 : tzR s1 s1 := ⟨tzK.rf, hv⟩
  unfold PX7_followCall_77
  refine ⟨fun c2 => ?_, fun c2 => ?_⟩
  · refine zf_X3_demand k0.2 (fun s1_1 k30 => ?_)
    have k3 := k0.trans k30
    refine zf_X2_parameterCount k3.2 (fun r3_1 s2_1 k40 => ?_)
    have k4 := k3.trans k40
    exact hK0 r3_1 _ k4
  · refine zf_X3_demand k0.2 (fun s4_1 k50 => ?_)
    have k5 := k0.trans k50
    refine zf_X2_parameterCount k5.2 (fun r6_1 s5_1 k60 => ?_)
    have k6 := k5.trans k60
    exact hK0 r6_1 _ k6
theorem zr_X7_followCall_0_1 {a2 : Int64} {s3 : zS} {K107 : Int32 → Int32 → zS → Prop} {K : zS → Prop} {QX : zS → Prop} (hv : sV s3) (h : ∀ z, tzR s3 z → K z) (hK0 : ∀ (q0 : Int32) (z : zS), tzR s3 z → K107 (-1 : Int32) (q0 - (1 : Int32)) z) (hK1 : ∀ (q0 : Int32) (z : zS), tzR s3 z → K107 (a2.toInt32) (q0 - (1 : Int32)) z) : zCT zZC zmX3_take [.ref 5, .int (127 : Int32)] s3 (zQi (fun r5 s4 =>
          vp_in (1 : Int32) 13 ∧
          ((((s4.1 18 (1 : Int32).toNatClampNeg).toInt64) ≤ a2 →
            PX7_followCall_77 K107 (zQv K) QX (-1 : Int32) s4) ∧ (¬ ((s4.1 18 (1 : Int32).toNatClampNeg).toInt64) ≤ a2 →
            PX7_followCall_77 K107 (zQv K) QX (a2.toInt32) s4)))) QX := by
  have k0 : tzR s3 s3 := ⟨tzK.rf, hv⟩
  refine zf_X3_take k0.2 (fun r5 s4 k10 => ?_)
  have k1 := k0.trans k10
  refine ⟨(by unfold vp_in; decide), ?_⟩
  refine ⟨fun c2 => ?_, fun c2 => ?_⟩
  · unfold PX7_followCall_77
    refine ⟨fun c4 => ?_, fun c4 => ?_⟩
    · refine zf_X3_demand k1.2 (fun s1_3 k50 => ?_)
      have k5 := k1.trans k50
      refine zf_X2_parameterCount k5.2 (fun r3_3 s2_3 k60 => ?_)
      have k6 := k5.trans k60
      exact hK0 r3_3 _ k6
    · exact absurd (by decide) c4
  · unfold PX7_followCall_77
    refine ⟨fun c8 => ?_, fun c8 => ?_⟩
    · refine zf_X3_demand k1.2 (fun s1_7 k90 => ?_)
      have k9 := k1.trans k90
      refine zf_X2_parameterCount k9.2 (fun r3_7 s2_7 k100 => ?_)
      have k10 := k9.trans k100
      exact hK1 r3_7 _ k10
    · refine zf_X3_demand k1.2 (fun s4_7 k110 => ?_)
      have k11 := k1.trans k110
      refine zf_X2_parameterCount k11.2 (fun r6_7 s5_7 k120 => ?_)
      have k12 := k11.trans k120
      exact hK1 r6_7 _ k12
theorem zr_X7_followCall_0_2 {a2 : Int64} {s4 : zS} {K107 : Int32 → Int32 → zS → Prop} {K : zS → Prop} {QX : zS → Prop} (hv : sV s4) (h : ∀ z, tzR s4 z → K z) (hK0 : ∀ (q0 : Int32) (z : zS), tzR s4 z → K107 (-1 : Int32) (q0 - (1 : Int32)) z) (hK1 : ∀ (q0 : Int32) (z : zS), tzR s4 z → K107 (a2.toInt32) (q0 - (1 : Int32)) z) : vp_in (1 : Int32) 13 ∧
          ((((s4.1 18 (1 : Int32).toNatClampNeg).toInt64) ≤ a2 →
            PX7_followCall_77 K107 (zQv K) QX (-1 : Int32) s4) ∧ (¬ ((s4.1 18 (1 : Int32).toNatClampNeg).toInt64) ≤ a2 →
            PX7_followCall_77 K107 (zQv K) QX (a2.toInt32) s4)) := by
  have k0 : tzR s4 s4 := ⟨tzK.rf, hv⟩
  refine ⟨(by unfold vp_in; decide), ?_⟩
  refine ⟨fun c1 => ?_, fun c1 => ?_⟩
  · unfold PX7_followCall_77
    refine ⟨fun c3 => ?_, fun c3 => ?_⟩
    · refine zf_X3_demand k0.2 (fun s1_2 k40 => ?_)
      have k4 := k0.trans k40
      refine zf_X2_parameterCount k4.2 (fun r3_2 s2_2 k50 => ?_)
      have k5 := k4.trans k50
      exact hK0 r3_2 _ k5
    · exact absurd (by decide) c3
  · unfold PX7_followCall_77
    refine ⟨fun c7 => ?_, fun c7 => ?_⟩
    · refine zf_X3_demand k0.2 (fun s1_6 k80 => ?_)
      have k8 := k0.trans k80
      refine zf_X2_parameterCount k8.2 (fun r3_6 s2_6 k90 => ?_)
      have k9 := k8.trans k90
      exact hK1 r3_6 _ k9
    · refine zf_X3_demand k0.2 (fun s4_6 k100 => ?_)
      have k10 := k0.trans k100
      refine zf_X2_parameterCount k10.2 (fun r6_6 s5_6 k110 => ?_)
      have k11 := k10.trans k110
      exact hK1 r6_6 _ k11
theorem zr_X7_followCall_0_3 {a2 : Int64} {s6 : zS} {K107 : Int32 → Int32 → zS → Prop} {K : zS → Prop} {QX : zS → Prop} (hv : sV s6) (h : ∀ z, tzR s6 z → K z) (hK0 : ∀ (q0 : Int32) (z : zS), tzR s6 z → K107 (-1 : Int32) (q0 - (1 : Int32)) z) (hK1 : ∀ (q0 : Int32) (z : zS), tzR s6 z → K107 (a2.toInt32) (q0 - (1 : Int32)) z) : zCT zZC zmX3_take [.ref 5, .int (127 : Int32)] s6 (zQi (fun r8 s7 =>
          vp_in (1 : Int32) 13 ∧
          ((((s7.1 18 (1 : Int32).toNatClampNeg).toInt64) ≤ a2 →
            PX7_followCall_77 K107 (zQv K) QX (-1 : Int32) s7) ∧ (¬ ((s7.1 18 (1 : Int32).toNatClampNeg).toInt64) ≤ a2 →
            PX7_followCall_77 K107 (zQv K) QX (a2.toInt32) s7)))) QX := by
  have k0 : tzR s6 s6 := ⟨tzK.rf, hv⟩
  refine zf_X3_take k0.2 (fun r8 s7 k10 => ?_)
  have k1 := k0.trans k10
  refine ⟨(by unfold vp_in; decide), ?_⟩
  refine ⟨fun c2 => ?_, fun c2 => ?_⟩
  · unfold PX7_followCall_77
    refine ⟨fun c4 => ?_, fun c4 => ?_⟩
    · refine zf_X3_demand k1.2 (fun s1_3 k50 => ?_)
      have k5 := k1.trans k50
      refine zf_X2_parameterCount k5.2 (fun r3_3 s2_3 k60 => ?_)
      have k6 := k5.trans k60
      exact hK0 r3_3 _ k6
    · exact absurd (by decide) c4
  · unfold PX7_followCall_77
    refine ⟨fun c8 => ?_, fun c8 => ?_⟩
    · refine zf_X3_demand k1.2 (fun s1_7 k90 => ?_)
      have k9 := k1.trans k90
      refine zf_X2_parameterCount k9.2 (fun r3_7 s2_7 k100 => ?_)
      have k10 := k9.trans k100
      exact hK1 r3_7 _ k10
    · refine zf_X3_demand k1.2 (fun s4_7 k110 => ?_)
      have k11 := k1.trans k110
      refine zf_X2_parameterCount k11.2 (fun r6_7 s5_7 k120 => ?_)
      have k12 := k11.trans k120
      exact hK1 r6_7 _ k12
theorem zr_X7_followCall_0_4 {a2 : Int64} {s7 : zS} {K107 : Int32 → Int32 → zS → Prop} {K : zS → Prop} {QX : zS → Prop} (hv : sV s7) (h : ∀ z, tzR s7 z → K z) (hK0 : ∀ (q0 : Int32) (z : zS), tzR s7 z → K107 (-1 : Int32) (q0 - (1 : Int32)) z) (hK1 : ∀ (q0 : Int32) (z : zS), tzR s7 z → K107 (a2.toInt32) (q0 - (1 : Int32)) z) : vp_in (1 : Int32) 13 ∧
          ((((s7.1 18 (1 : Int32).toNatClampNeg).toInt64) ≤ a2 →
            PX7_followCall_77 K107 (zQv K) QX (-1 : Int32) s7) ∧ (¬ ((s7.1 18 (1 : Int32).toNatClampNeg).toInt64) ≤ a2 →
            PX7_followCall_77 K107 (zQv K) QX (a2.toInt32) s7)) := by
  have k0 : tzR s7 s7 := ⟨tzK.rf, hv⟩
  refine ⟨(by unfold vp_in; decide), ?_⟩
  refine ⟨fun c1 => ?_, fun c1 => ?_⟩
  · unfold PX7_followCall_77
    refine ⟨fun c3 => ?_, fun c3 => ?_⟩
    · refine zf_X3_demand k0.2 (fun s1_2 k40 => ?_)
      have k4 := k0.trans k40
      refine zf_X2_parameterCount k4.2 (fun r3_2 s2_2 k50 => ?_)
      have k5 := k4.trans k50
      exact hK0 r3_2 _ k5
    · exact absurd (by decide) c3
  · unfold PX7_followCall_77
    refine ⟨fun c7 => ?_, fun c7 => ?_⟩
    · refine zf_X3_demand k0.2 (fun s1_6 k80 => ?_)
      have k8 := k0.trans k80
      refine zf_X2_parameterCount k8.2 (fun r3_6 s2_6 k90 => ?_)
      have k9 := k8.trans k90
      exact hK1 r3_6 _ k9
    · refine zf_X3_demand k0.2 (fun s4_6 k100 => ?_)
      have k10 := k0.trans k100
      refine zf_X2_parameterCount k10.2 (fun r6_6 s5_6 k110 => ?_)
      have k11 := k10.trans k110
      exact hK1 r6_6 _ k11
theorem zr_X7_followCall_77_0 {x4 : Int32} {s1 : zS} {K107 : Int32 → Int32 → zS → Prop} {K : zS → Prop} {QX : zS → Prop} (hv : sV s1) (h : ∀ z, tzR s1 z → K z) (hK0 : ∀ (q0 : Int32) (z : zS), tzR s1 z → K107 x4 (q0 - (1 : Int32)) z) : zCT zZC zmX2_parameterCount [.ref 2, .int x4] s1 (zQi (fun r3 s2 =>
        K107 x4 (r3 - (1 : Int32)) s2)) QX := by
  have k0 : tzR s1 s1 := ⟨tzK.rf, hv⟩
  refine zf_X2_parameterCount k0.2 (fun r3 s2 k10 => ?_)
  have k1 := k0.trans k10
  exact hK0 r3 _ k1
theorem zr_X7_followCall_77_1 {r3 : Int32} {x4 : Int32} {s2 : zS} {K107 : Int32 → Int32 → zS → Prop} {K : zS → Prop} (hv : sV s2) (h : ∀ z, tzR s2 z → K z) (hK0 : ∀ (z : zS), tzR s2 z → K107 x4 (r3 - (1 : Int32)) z) : K107 x4 (r3 - (1 : Int32)) s2 := by
  have k0 : tzR s2 s2 := ⟨tzK.rf, hv⟩
  exact hK0  _ k0
theorem zr_X7_followCall_77_2 {x4 : Int32} {s4 : zS} {K107 : Int32 → Int32 → zS → Prop} {K : zS → Prop} {QX : zS → Prop} (hv : sV s4) (h : ∀ z, tzR s4 z → K z) (hK0 : ∀ (q0 : Int32) (z : zS), tzR s4 z → K107 x4 (q0 - (1 : Int32)) z) : zCT zZC zmX2_parameterCount [.ref 2, .int x4] s4 (zQi (fun r6 s5 =>
        K107 x4 (r6 - (1 : Int32)) s5)) QX := by
  have k0 : tzR s4 s4 := ⟨tzK.rf, hv⟩
  refine zf_X2_parameterCount k0.2 (fun r6 s5 k10 => ?_)
  have k1 := k0.trans k10
  exact hK0 r6 _ k1
theorem zr_X7_followCall_77_3 {r6 : Int32} {x4 : Int32} {s5 : zS} {K107 : Int32 → Int32 → zS → Prop} {K : zS → Prop} (hv : sV s5) (h : ∀ z, tzR s5 z → K z) (hK0 : ∀ (z : zS), tzR s5 z → K107 x4 (r6 - (1 : Int32)) z) : K107 x4 (r6 - (1 : Int32)) s5 := by
  have k0 : tzR s5 s5 := ⟨tzK.rf, hv⟩
  exact hK0  _ k0
theorem zr_X7_followCall_107_0 {r2 : Int32} {s1 : zS} {K : zS → Prop} {QX : zS → Prop} (hv : sV s1) (h : ∀ z, tzR s1 z → K z) : zCT zZC zmX3_leave [.ref 5, .int r2] s1 (zQv (fun s3 =>
        zQv K none s3)) QX := by
  have k0 : tzR s1 s1 := ⟨tzK.rf, hv⟩
  refine zf_X3_leave k0.2 (fun s3 k10 => ?_)
  have k1 := k0.trans k10
  exact h _ k1
theorem zr_X7_followCall_107_1 {s3 : zS} {K : zS → Prop} (hv : sV s3) (h : ∀ z, tzR s3 z → K z) : zQv K none s3 := by
  have k0 : tzR s3 s3 := ⟨tzK.rf, hv⟩
  exact h _ k0
theorem zr_X7_followCall_107_2 {r5 : Int32} {x4 : Int32} {x5 : Int32} {s4 : zS} {K107 : Int32 → Int32 → zS → Prop} {K : zS → Prop} {QX : zS → Prop} (hv : sV s4) (h : ∀ z, tzR s4 z → K z) (hK0 : ∀ (z : zS), tzR s4 z → K107 x4 (x5 + (-1)) z) : zCT zZC zmX3_take [.ref 5, .int r5] s4 (zQi (fun r7 s6 =>
        K107 x4 (x5 + (-1)) s6)) QX := by
  have k0 : tzR s4 s4 := ⟨tzK.rf, hv⟩
  refine zf_X3_take k0.2 (fun r7 s6 k10 => ?_)
  have k1 := k0.trans k10
  exact hK0  _ k1
theorem zr_X7_followCall_107_3 {x4 : Int32} {x5 : Int32} {s6 : zS} {K107 : Int32 → Int32 → zS → Prop} {K : zS → Prop} (hv : sV s6) (h : ∀ z, tzR s6 z → K z) (hK0 : ∀ (z : zS), tzR s6 z → K107 x4 (x5 + (-1)) z) : K107 x4 (x5 + (-1)) s6 := by
  have k0 : tzR s6 s6 := ⟨tzK.rf, hv⟩
  exact hK0  _ k0
theorem zr_X7_followChoice_0_0 {s1 : zS} {K : zS → Prop} (hv : sV s1) (h : ∀ z, tzR s1 z → K z) : zQv K none s1 := by
  have k0 : tzR s1 s1 := ⟨tzK.rf, hv⟩
  exact h _ k0
theorem zr_X7_followChoice_0_1 {s3 : zS} {K : zS → Prop} {QX : zS → Prop} (hv : sV s3) (h : ∀ z, tzR s3 z → K z) : zCT zZC zmX3_take [.ref 5, .int (0 : Int32)] s3 (zQi (fun r6 s5 =>
        zCT zZC zmX3_take [.ref 5, .int (0 : Int32)] s5 (zQi (fun r8 s7 =>
          ((r8 = r6 →
            zCT zZC zmX3_demand [.ref 5, .int (1 : Int32)] s7 (zQv (fun s9 =>
              ((r8 = 0 →
                zCT zZC zmX3_leave [.ref 5, .int r6] s9 (zQv (fun s10 =>
                  zQv K none s10)) QX) ∧ (¬ r8 = 0 →
                zCT zZC zmX3_leave [.ref 5, .int r8] s9 (zQv (fun s11 =>
                  zQv K none s11)) QX)))) QX) ∧ (¬ r8 = r6 →
            ((r8 = 0 →
              zCT zZC zmX3_demand [.ref 5, .int (1 : Int32)] s7 (zQv (fun s12 =>
                ((r8 = 0 →
                  zCT zZC zmX3_leave [.ref 5, .int r6] s12 (zQv (fun s13 =>
                    zQv K none s13)) QX) ∧ (¬ r8 = 0 →
                  zCT zZC zmX3_leave [.ref 5, .int r8] s12 (zQv (fun s14 =>
                    zQv K none s14)) QX)))) QX) ∧ (¬ r8 = 0 →
              ((r6 = 0 →
                zCT zZC zmX3_demand [.ref 5, .int (1 : Int32)] s7 (zQv (fun s15 =>
                  ((r8 = 0 →
                    zCT zZC zmX3_leave [.ref 5, .int r6] s15 (zQv (fun s16 =>
                      zQv K none s16)) QX) ∧ (¬ r8 = 0 →
                    zCT zZC zmX3_leave [.ref 5, .int r8] s15 (zQv (fun s17 =>
                      zQv K none s17)) QX)))) QX) ∧ (¬ r6 = 0 →
                zCT zZC zmX3_demand [.ref 5, .int (0 : Int32)] s7 (zQv (fun s18 =>
                  ((r8 = 0 →
                    zCT zZC zmX3_leave [.ref 5, .int r6] s18 (zQv (fun s19 =>
                      zQv K none s19)) QX) ∧ (¬ r8 = 0 →
                    zCT zZC zmX3_leave [.ref 5, .int r8] s18 (zQv (fun s20 =>
                      zQv K none s20)) QX)))) QX)))))))) QX)) QX := by
  have k0 : tzR s3 s3 := ⟨tzK.rf, hv⟩
  refine zf_X3_take k0.2 (fun r6 s5 k10 => ?_)
  have k1 := k0.trans k10
  refine zf_X3_take k1.2 (fun r8 s7 k20 => ?_)
  have k2 := k1.trans k20
  refine ⟨fun c3 => ?_, fun c3 => ?_⟩
  · refine zf_X3_demand k2.2 (fun s9 k40 => ?_)
    have k4 := k2.trans k40
    refine ⟨fun c5 => ?_, fun c5 => ?_⟩
    · refine zf_X3_leave k4.2 (fun s10 k60 => ?_)
      have k6 := k4.trans k60
      exact h _ k6
    · refine zf_X3_leave k4.2 (fun s11 k70 => ?_)
      have k7 := k4.trans k70
      exact h _ k7
  · refine ⟨fun c8 => ?_, fun c8 => ?_⟩
    · refine zf_X3_demand k2.2 (fun s12 k90 => ?_)
      have k9 := k2.trans k90
      refine ⟨fun c10 => ?_, fun c10 => ?_⟩
      · refine zf_X3_leave k9.2 (fun s13 k110 => ?_)
        have k11 := k9.trans k110
        exact h _ k11
      · refine zf_X3_leave k9.2 (fun s14 k120 => ?_)
        have k12 := k9.trans k120
        exact h _ k12
    · refine ⟨fun c13 => ?_, fun c13 => ?_⟩
      · refine zf_X3_demand k2.2 (fun s15 k140 => ?_)
        have k14 := k2.trans k140
        refine ⟨fun c15 => ?_, fun c15 => ?_⟩
        · refine zf_X3_leave k14.2 (fun s16 k160 => ?_)
          have k16 := k14.trans k160
          exact h _ k16
        · refine zf_X3_leave k14.2 (fun s17 k170 => ?_)
          have k17 := k14.trans k170
          exact h _ k17
      · refine zf_X3_demand k2.2 (fun s18 k180 => ?_)
        have k18 := k2.trans k180
        refine ⟨fun c19 => ?_, fun c19 => ?_⟩
        · refine zf_X3_leave k18.2 (fun s19 k200 => ?_)
          have k20 := k18.trans k200
          exact h _ k20
        · refine zf_X3_leave k18.2 (fun s20 k210 => ?_)
          have k21 := k18.trans k210
          exact h _ k21
theorem zr_X7_followChoice_0_2 {r6 : Int32} {s5 : zS} {K : zS → Prop} {QX : zS → Prop} (hv : sV s5) (h : ∀ z, tzR s5 z → K z) : zCT zZC zmX3_take [.ref 5, .int (0 : Int32)] s5 (zQi (fun r8 s7 =>
          ((r8 = r6 →
            zCT zZC zmX3_demand [.ref 5, .int (1 : Int32)] s7 (zQv (fun s9 =>
              ((r8 = 0 →
                zCT zZC zmX3_leave [.ref 5, .int r6] s9 (zQv (fun s10 =>
                  zQv K none s10)) QX) ∧ (¬ r8 = 0 →
                zCT zZC zmX3_leave [.ref 5, .int r8] s9 (zQv (fun s11 =>
                  zQv K none s11)) QX)))) QX) ∧ (¬ r8 = r6 →
            ((r8 = 0 →
              zCT zZC zmX3_demand [.ref 5, .int (1 : Int32)] s7 (zQv (fun s12 =>
                ((r8 = 0 →
                  zCT zZC zmX3_leave [.ref 5, .int r6] s12 (zQv (fun s13 =>
                    zQv K none s13)) QX) ∧ (¬ r8 = 0 →
                  zCT zZC zmX3_leave [.ref 5, .int r8] s12 (zQv (fun s14 =>
                    zQv K none s14)) QX)))) QX) ∧ (¬ r8 = 0 →
              ((r6 = 0 →
                zCT zZC zmX3_demand [.ref 5, .int (1 : Int32)] s7 (zQv (fun s15 =>
                  ((r8 = 0 →
                    zCT zZC zmX3_leave [.ref 5, .int r6] s15 (zQv (fun s16 =>
                      zQv K none s16)) QX) ∧ (¬ r8 = 0 →
                    zCT zZC zmX3_leave [.ref 5, .int r8] s15 (zQv (fun s17 =>
                      zQv K none s17)) QX)))) QX) ∧ (¬ r6 = 0 →
                zCT zZC zmX3_demand [.ref 5, .int (0 : Int32)] s7 (zQv (fun s18 =>
                  ((r8 = 0 →
                    zCT zZC zmX3_leave [.ref 5, .int r6] s18 (zQv (fun s19 =>
                      zQv K none s19)) QX) ∧ (¬ r8 = 0 →
                    zCT zZC zmX3_leave [.ref 5, .int r8] s18 (zQv (fun s20 =>
                      zQv K none s20)) QX)))) QX)))))))) QX := by
  have k0 : tzR s5 s5 := ⟨tzK.rf, hv⟩
  refine zf_X3_take k0.2 (fun r8 s7 k10 => ?_)
  have k1 := k0.trans k10
  refine ⟨fun c2 => ?_, fun c2 => ?_⟩
  · refine zf_X3_demand k1.2 (fun s9 k30 => ?_)
    have k3 := k1.trans k30
    refine ⟨fun c4 => ?_, fun c4 => ?_⟩
    · refine zf_X3_leave k3.2 (fun s10 k50 => ?_)
      have k5 := k3.trans k50
      exact h _ k5
    · refine zf_X3_leave k3.2 (fun s11 k60 => ?_)
      have k6 := k3.trans k60
      exact h _ k6
  · refine ⟨fun c7 => ?_, fun c7 => ?_⟩
    · refine zf_X3_demand k1.2 (fun s12 k80 => ?_)
      have k8 := k1.trans k80
      refine ⟨fun c9 => ?_, fun c9 => ?_⟩
      · refine zf_X3_leave k8.2 (fun s13 k100 => ?_)
        have k10 := k8.trans k100
        exact h _ k10
      · refine zf_X3_leave k8.2 (fun s14 k110 => ?_)
        have k11 := k8.trans k110
        exact h _ k11
    · refine ⟨fun c12 => ?_, fun c12 => ?_⟩
      · refine zf_X3_demand k1.2 (fun s15 k130 => ?_)
        have k13 := k1.trans k130
        refine ⟨fun c14 => ?_, fun c14 => ?_⟩
        · refine zf_X3_leave k13.2 (fun s16 k150 => ?_)
          have k15 := k13.trans k150
          exact h _ k15
        · refine zf_X3_leave k13.2 (fun s17 k160 => ?_)
          have k16 := k13.trans k160
          exact h _ k16
      · refine zf_X3_demand k1.2 (fun s18 k170 => ?_)
        have k17 := k1.trans k170
        refine ⟨fun c18 => ?_, fun c18 => ?_⟩
        · refine zf_X3_leave k17.2 (fun s19 k190 => ?_)
          have k19 := k17.trans k190
          exact h _ k19
        · refine zf_X3_leave k17.2 (fun s20 k200 => ?_)
          have k20 := k17.trans k200
          exact h _ k20
theorem zr_X7_followChoice_0_3 {r6 : Int32} {r8 : Int32} {s7 : zS} {K : zS → Prop} {QX : zS → Prop} (hv : sV s7) (h : ∀ z, tzR s7 z → K z) : ((r8 = r6 →
            zCT zZC zmX3_demand [.ref 5, .int (1 : Int32)] s7 (zQv (fun s9 =>
              ((r8 = 0 →
                zCT zZC zmX3_leave [.ref 5, .int r6] s9 (zQv (fun s10 =>
                  zQv K none s10)) QX) ∧ (¬ r8 = 0 →
                zCT zZC zmX3_leave [.ref 5, .int r8] s9 (zQv (fun s11 =>
                  zQv K none s11)) QX)))) QX) ∧ (¬ r8 = r6 →
            ((r8 = 0 →
              zCT zZC zmX3_demand [.ref 5, .int (1 : Int32)] s7 (zQv (fun s12 =>
                ((r8 = 0 →
                  zCT zZC zmX3_leave [.ref 5, .int r6] s12 (zQv (fun s13 =>
                    zQv K none s13)) QX) ∧ (¬ r8 = 0 →
                  zCT zZC zmX3_leave [.ref 5, .int r8] s12 (zQv (fun s14 =>
                    zQv K none s14)) QX)))) QX) ∧ (¬ r8 = 0 →
              ((r6 = 0 →
                zCT zZC zmX3_demand [.ref 5, .int (1 : Int32)] s7 (zQv (fun s15 =>
                  ((r8 = 0 →
                    zCT zZC zmX3_leave [.ref 5, .int r6] s15 (zQv (fun s16 =>
                      zQv K none s16)) QX) ∧ (¬ r8 = 0 →
                    zCT zZC zmX3_leave [.ref 5, .int r8] s15 (zQv (fun s17 =>
                      zQv K none s17)) QX)))) QX) ∧ (¬ r6 = 0 →
                zCT zZC zmX3_demand [.ref 5, .int (0 : Int32)] s7 (zQv (fun s18 =>
                  ((r8 = 0 →
                    zCT zZC zmX3_leave [.ref 5, .int r6] s18 (zQv (fun s19 =>
                      zQv K none s19)) QX) ∧ (¬ r8 = 0 →
                    zCT zZC zmX3_leave [.ref 5, .int r8] s18 (zQv (fun s20 =>
                      zQv K none s20)) QX)))) QX)))))) := by
  have k0 : tzR s7 s7 := ⟨tzK.rf, hv⟩
  refine ⟨fun c1 => ?_, fun c1 => ?_⟩
  · refine zf_X3_demand k0.2 (fun s9 k20 => ?_)
    have k2 := k0.trans k20
    refine ⟨fun c3 => ?_, fun c3 => ?_⟩
    · refine zf_X3_leave k2.2 (fun s10 k40 => ?_)
      have k4 := k2.trans k40
      exact h _ k4
    · refine zf_X3_leave k2.2 (fun s11 k50 => ?_)
      have k5 := k2.trans k50
      exact h _ k5
  · refine ⟨fun c6 => ?_, fun c6 => ?_⟩
    · refine zf_X3_demand k0.2 (fun s12 k70 => ?_)
      have k7 := k0.trans k70
      refine ⟨fun c8 => ?_, fun c8 => ?_⟩
      · refine zf_X3_leave k7.2 (fun s13 k90 => ?_)
        have k9 := k7.trans k90
        exact h _ k9
      · refine zf_X3_leave k7.2 (fun s14 k100 => ?_)
        have k10 := k7.trans k100
        exact h _ k10
    · refine ⟨fun c11 => ?_, fun c11 => ?_⟩
      · refine zf_X3_demand k0.2 (fun s15 k120 => ?_)
        have k12 := k0.trans k120
        refine ⟨fun c13 => ?_, fun c13 => ?_⟩
        · refine zf_X3_leave k12.2 (fun s16 k140 => ?_)
          have k14 := k12.trans k140
          exact h _ k14
        · refine zf_X3_leave k12.2 (fun s17 k150 => ?_)
          have k15 := k12.trans k150
          exact h _ k15
      · refine zf_X3_demand k0.2 (fun s18 k160 => ?_)
        have k16 := k0.trans k160
        refine ⟨fun c17 => ?_, fun c17 => ?_⟩
        · refine zf_X3_leave k16.2 (fun s19 k180 => ?_)
          have k18 := k16.trans k180
          exact h _ k18
        · refine zf_X3_leave k16.2 (fun s20 k190 => ?_)
          have k19 := k16.trans k190
          exact h _ k19
theorem zr_X7_followChoice_0_4 {r6 : Int32} {r8 : Int32} {s9 : zS} {K : zS → Prop} {QX : zS → Prop} (hv : sV s9) (h : ∀ z, tzR s9 z → K z) : ((r8 = 0 →
                zCT zZC zmX3_leave [.ref 5, .int r6] s9 (zQv (fun s10 =>
                  zQv K none s10)) QX) ∧ (¬ r8 = 0 →
                zCT zZC zmX3_leave [.ref 5, .int r8] s9 (zQv (fun s11 =>
                  zQv K none s11)) QX)) := by
  have k0 : tzR s9 s9 := ⟨tzK.rf, hv⟩
  refine ⟨fun c1 => ?_, fun c1 => ?_⟩
  · refine zf_X3_leave k0.2 (fun s10 k20 => ?_)
    have k2 := k0.trans k20
    exact h _ k2
  · refine zf_X3_leave k0.2 (fun s11 k30 => ?_)
    have k3 := k0.trans k30
    exact h _ k3
theorem zr_X7_followChoice_0_5 {s10 : zS} {K : zS → Prop} (hv : sV s10) (h : ∀ z, tzR s10 z → K z) : zQv K none s10 := by
  have k0 : tzR s10 s10 := ⟨tzK.rf, hv⟩
  exact h _ k0
theorem zr_X7_followChoice_0_6 {s11 : zS} {K : zS → Prop} (hv : sV s11) (h : ∀ z, tzR s11 z → K z) : zQv K none s11 := by
  have k0 : tzR s11 s11 := ⟨tzK.rf, hv⟩
  exact h _ k0
theorem zr_X7_followChoice_0_7 {r6 : Int32} {r8 : Int32} {s12 : zS} {K : zS → Prop} {QX : zS → Prop} (hv : sV s12) (h : ∀ z, tzR s12 z → K z) : ((r8 = 0 →
                  zCT zZC zmX3_leave [.ref 5, .int r6] s12 (zQv (fun s13 =>
                    zQv K none s13)) QX) ∧ (¬ r8 = 0 →
                  zCT zZC zmX3_leave [.ref 5, .int r8] s12 (zQv (fun s14 =>
                    zQv K none s14)) QX)) := by
  have k0 : tzR s12 s12 := ⟨tzK.rf, hv⟩
  refine ⟨fun c1 => ?_, fun c1 => ?_⟩
  · refine zf_X3_leave k0.2 (fun s13 k20 => ?_)
    have k2 := k0.trans k20
    exact h _ k2
  · refine zf_X3_leave k0.2 (fun s14 k30 => ?_)
    have k3 := k0.trans k30
    exact h _ k3
theorem zr_X7_followChoice_0_8 {s13 : zS} {K : zS → Prop} (hv : sV s13) (h : ∀ z, tzR s13 z → K z) : zQv K none s13 := by
  have k0 : tzR s13 s13 := ⟨tzK.rf, hv⟩
  exact h _ k0
theorem zr_X7_followChoice_0_9 {s14 : zS} {K : zS → Prop} (hv : sV s14) (h : ∀ z, tzR s14 z → K z) : zQv K none s14 := by
  have k0 : tzR s14 s14 := ⟨tzK.rf, hv⟩
  exact h _ k0
theorem zr_X7_followChoice_0_10 {r6 : Int32} {r8 : Int32} {s15 : zS} {K : zS → Prop} {QX : zS → Prop} (hv : sV s15) (h : ∀ z, tzR s15 z → K z) : ((r8 = 0 →
                    zCT zZC zmX3_leave [.ref 5, .int r6] s15 (zQv (fun s16 =>
                      zQv K none s16)) QX) ∧ (¬ r8 = 0 →
                    zCT zZC zmX3_leave [.ref 5, .int r8] s15 (zQv (fun s17 =>
                      zQv K none s17)) QX)) := by
  have k0 : tzR s15 s15 := ⟨tzK.rf, hv⟩
  refine ⟨fun c1 => ?_, fun c1 => ?_⟩
  · refine zf_X3_leave k0.2 (fun s16 k20 => ?_)
    have k2 := k0.trans k20
    exact h _ k2
  · refine zf_X3_leave k0.2 (fun s17 k30 => ?_)
    have k3 := k0.trans k30
    exact h _ k3
theorem zr_X7_followChoice_0_11 {s16 : zS} {K : zS → Prop} (hv : sV s16) (h : ∀ z, tzR s16 z → K z) : zQv K none s16 := by
  have k0 : tzR s16 s16 := ⟨tzK.rf, hv⟩
  exact h _ k0
theorem zr_X7_followChoice_0_12 {s17 : zS} {K : zS → Prop} (hv : sV s17) (h : ∀ z, tzR s17 z → K z) : zQv K none s17 := by
  have k0 : tzR s17 s17 := ⟨tzK.rf, hv⟩
  exact h _ k0
theorem zr_X7_followChoice_0_13 {r6 : Int32} {r8 : Int32} {s18 : zS} {K : zS → Prop} {QX : zS → Prop} (hv : sV s18) (h : ∀ z, tzR s18 z → K z) : ((r8 = 0 →
                    zCT zZC zmX3_leave [.ref 5, .int r6] s18 (zQv (fun s19 =>
                      zQv K none s19)) QX) ∧ (¬ r8 = 0 →
                    zCT zZC zmX3_leave [.ref 5, .int r8] s18 (zQv (fun s20 =>
                      zQv K none s20)) QX)) := by
  have k0 : tzR s18 s18 := ⟨tzK.rf, hv⟩
  refine ⟨fun c1 => ?_, fun c1 => ?_⟩
  · refine zf_X3_leave k0.2 (fun s19 k20 => ?_)
    have k2 := k0.trans k20
    exact h _ k2
  · refine zf_X3_leave k0.2 (fun s20 k30 => ?_)
    have k3 := k0.trans k30
    exact h _ k3
theorem zr_X7_followChoice_0_14 {s19 : zS} {K : zS → Prop} (hv : sV s19) (h : ∀ z, tzR s19 z → K z) : zQv K none s19 := by
  have k0 : tzR s19 s19 := ⟨tzK.rf, hv⟩
  exact h _ k0
theorem zr_X7_followChoice_0_15 {s20 : zS} {K : zS → Prop} (hv : sV s20) (h : ∀ z, tzR s20 z → K z) : zQv K none s20 := by
  have k0 : tzR s20 s20 := ⟨tzK.rf, hv⟩
  exact h _ k0
theorem zr_X7_followLocal_0_0 {s1 : zS} {K : zS → Prop} (hv : sV s1) (h : ∀ z, tzR s1 z → K z) : zQv K none s1 := by
  have k0 : tzR s1 s1 := ⟨tzK.rf, hv⟩
  exact h _ k0
theorem zr_X7_followLocal_0_1 {s2 : zS} {K : zS → Prop} (hv : sV s2) (h : ∀ z, tzR s2 z → K z) : zQv K none s2 := by
  have k0 : tzR s2 s2 := ⟨tzK.rf, hv⟩
  exact h _ k0
theorem zr_X7_followLocal_0_2 {s3 : zS} {K : zS → Prop} (hv : sV s3) (h : ∀ z, tzR s3 z → K z) : zQv K none s3 := by
  have k0 : tzR s3 s3 := ⟨tzK.rf, hv⟩
  exact h _ k0
theorem zr_X7_followLocal_0_3 {a1 : Int32} {a2 : Int64} {σ : zS} {s4 : zS} {K : zS → Prop} {QX : zS → Prop} (hv : sV s4) (h : ∀ z, tzR s4 z → K z) : ((a1 = (33 : Int32) →
              zQv K none s4) ∧ (¬ a1 = (33 : Int32) →
              zCT zZC zmX3_leave [.ref 5, .int (σ.1 27 (a2.toInt32).toNatClampNeg)] s4 (zQv (fun s6 =>
                zQv K none s6)) QX)) := by
  have k0 : tzR s4 s4 := ⟨tzK.rf, hv⟩
  refine ⟨fun c1 => ?_, fun c1 => ?_⟩
  · exact h _ k0
  · refine zf_X3_leave k0.2 (fun s6 k20 => ?_)
    have k2 := k0.trans k20
    exact h _ k2
theorem zr_X7_followLocal_0_4 {s6 : zS} {K : zS → Prop} (hv : sV s6) (h : ∀ z, tzR s6 z → K z) : zQv K none s6 := by
  have k0 : tzR s6 s6 := ⟨tzK.rf, hv⟩
  exact h _ k0
theorem zr_X7_followLocal_0_5 {s7 : zS} {K : zS → Prop} (hv : sV s7) (h : ∀ z, tzR s7 z → K z) : zQv K none s7 := by
  have k0 : tzR s7 s7 := ⟨tzK.rf, hv⟩
  exact h _ k0
theorem zr_X7_followGlobal_0_0 {s1 : zS} {K : zS → Prop} (hv : sV s1) (h : ∀ z, tzR s1 z → K z) : zQv K none s1 := by
  have k0 : tzR s1 s1 := ⟨tzK.rf, hv⟩
  exact h _ k0
theorem zr_X7_followGlobal_0_1 {a1 : Int32} {a2 : Int64} {r3 : Int32} {s2 : zS} {K : zS → Prop} {QX : zS → Prop} (hv : sV s2) (h : ∀ z, tzR s2 z → K z) : ((a1 = (35 : Int32) →
          zCT zZC zmX3_leave [.ref 5, .int r3] s2 (zQv (fun s4 =>
            zQv K none s4)) QX) ∧ (¬ a1 = (35 : Int32) →
          zCT zZC zmX2_changesGlobal [.ref 2, .int (a2.toInt32)] s2 (zQi (fun r6 s5 =>
            zCT zZC zmX3_demand [.ref 5, .int r6] s5 (zQv (fun s7 =>
              zCT zZC zmX3_take [.ref 5, .int r3] s7 (zQi (fun r9 s8 =>
                zQv K none s8)) QX)) QX)) QX)) := by
  have k0 : tzR s2 s2 := ⟨tzK.rf, hv⟩
  refine ⟨fun c1 => ?_, fun c1 => ?_⟩
  · refine zf_X3_leave k0.2 (fun s4 k20 => ?_)
    have k2 := k0.trans k20
    exact h _ k2
  · refine zf_X2_changesGlobal k0.2 (fun r6 s5 b4 k30 => ?_)
    have k3 := k0.trans k30
    refine zf_X3_demand k3.2 (fun s7 k50 => ?_)
    have k5 := k3.trans k50
    refine zf_X3_take k5.2 (fun r9 s8 k60 => ?_)
    have k6 := k5.trans k60
    exact h _ k6
theorem zr_X7_followGlobal_0_2 {s4 : zS} {K : zS → Prop} (hv : sV s4) (h : ∀ z, tzR s4 z → K z) : zQv K none s4 := by
  have k0 : tzR s4 s4 := ⟨tzK.rf, hv⟩
  exact h _ k0
theorem zr_X7_followGlobal_0_3 {r3 : Int32} {r6 : Int32} {s5 : zS} {K : zS → Prop} {QX : zS → Prop} (hv : sV s5) (h : ∀ z, tzR s5 z → K z) : zCT zZC zmX3_demand [.ref 5, .int r6] s5 (zQv (fun s7 =>
              zCT zZC zmX3_take [.ref 5, .int r3] s7 (zQi (fun r9 s8 =>
                zQv K none s8)) QX)) QX := by
  have k0 : tzR s5 s5 := ⟨tzK.rf, hv⟩
  refine zf_X3_demand k0.2 (fun s7 k10 => ?_)
  have k1 := k0.trans k10
  refine zf_X3_take k1.2 (fun r9 s8 k20 => ?_)
  have k2 := k1.trans k20
  exact h _ k2
theorem zr_X7_followGlobal_0_4 {r3 : Int32} {s7 : zS} {K : zS → Prop} {QX : zS → Prop} (hv : sV s7) (h : ∀ z, tzR s7 z → K z) : zCT zZC zmX3_take [.ref 5, .int r3] s7 (zQi (fun r9 s8 =>
                zQv K none s8)) QX := by
  have k0 : tzR s7 s7 := ⟨tzK.rf, hv⟩
  refine zf_X3_take k0.2 (fun r9 s8 k10 => ?_)
  have k1 := k0.trans k10
  exact h _ k1
theorem zr_X7_followGlobal_0_5 {s8 : zS} {K : zS → Prop} (hv : sV s8) (h : ∀ z, tzR s8 z → K z) : zQv K none s8 := by
  have k0 : tzR s8 s8 := ⟨tzK.rf, hv⟩
  exact h _ k0
theorem zr_X7_followGlobal_0_6 {s10 : zS} {K : zS → Prop} (hv : sV s10) (h : ∀ z, tzR s10 z → K z) : zQv K none s10 := by
  have k0 : tzR s10 s10 := ⟨tzK.rf, hv⟩
  exact h _ k0
theorem zr_X7_followAccess_0_0 {a1 : Int32} {a2 : Int64} {s1 : zS} {K : zS → Prop} {QX : zS → Prop} (hv : sV s1) (h : ∀ z, tzR s1 z → K z) : (((a1 - (40 : Int32)) < 0 →
        zCT zZC zmX3_demand [.ref 5, .int (0 : Int32)] s1 (zQv (fun s2 =>
          ((a1 = (41 : Int32) →
            PX7_followAccess_96 (zQv K) QX a1 s2) ∧ (¬ a1 = (41 : Int32) →
            ((a1 < (48 : Int32) →
              PX7_followAccess_84 (zQv K) QX a1 s2) ∧ (¬ a1 < (48 : Int32) →
              ((a1 ≤ (53 : Int32) →
                PX7_followAccess_96 (zQv K) QX a1 s2) ∧ (¬ a1 ≤ (53 : Int32) →
                PX7_followAccess_84 (zQv K) QX a1 s2)))))))) QX) ∧ (¬ (a1 - (40 : Int32)) < 0 →
        (((nI zt_ACCESS_WIDTHS_n) ≤ (a1 - (40 : Int32)) →
          zCT zZC zmX3_demand [.ref 5, .int (0 : Int32)] s1 (zQv (fun s3 =>
            ((a1 = (41 : Int32) →
              PX7_followAccess_96 (zQv K) QX a1 s3) ∧ (¬ a1 = (41 : Int32) →
              ((a1 < (48 : Int32) →
                PX7_followAccess_84 (zQv K) QX a1 s3) ∧ (¬ a1 < (48 : Int32) →
                ((a1 ≤ (53 : Int32) →
                  PX7_followAccess_96 (zQv K) QX a1 s3) ∧ (¬ a1 ≤ (53 : Int32) →
                  PX7_followAccess_84 (zQv K) QX a1 s3)))))))) QX) ∧ (¬ (nI zt_ACCESS_WIDTHS_n) ≤ (a1 - (40 : Int32)) →
          vp_in (a1 - (40 : Int32)) zt_ACCESS_WIDTHS_n ∧
          ((((zt_ACCESS_WIDTHS_f (a1 - (40 : Int32)).toNatClampNeg).toInt64) < a2 →
            zCT zZC zmX3_demand [.ref 5, .int (0 : Int32)] s1 (zQv (fun s4 =>
              ((a1 = (41 : Int32) →
                PX7_followAccess_96 (zQv K) QX a1 s4) ∧ (¬ a1 = (41 : Int32) →
                ((a1 < (48 : Int32) →
                  PX7_followAccess_84 (zQv K) QX a1 s4) ∧ (¬ a1 < (48 : Int32) →
                  ((a1 ≤ (53 : Int32) →
                    PX7_followAccess_96 (zQv K) QX a1 s4) ∧ (¬ a1 ≤ (53 : Int32) →
                    PX7_followAccess_84 (zQv K) QX a1 s4)))))))) QX) ∧ (¬ ((zt_ACCESS_WIDTHS_f (a1 - (40 : Int32)).toNatClampNeg).toInt64) < a2 →
            zCT zZC zmX3_demand [.ref 5, .int (1 : Int32)] s1 (zQv (fun s5 =>
              ((a1 = (41 : Int32) →
                PX7_followAccess_96 (zQv K) QX a1 s5) ∧ (¬ a1 = (41 : Int32) →
                ((a1 < (48 : Int32) →
                  PX7_followAccess_84 (zQv K) QX a1 s5) ∧ (¬ a1 < (48 : Int32) →
                  ((a1 ≤ (53 : Int32) →
                    PX7_followAccess_96 (zQv K) QX a1 s5) ∧ (¬ a1 ≤ (53 : Int32) →
                    PX7_followAccess_84 (zQv K) QX a1 s5)))))))) QX)))))) := by
  have k0 : tzR s1 s1 := ⟨tzK.rf, hv⟩
  refine ⟨fun c1 => ?_, fun c1 => ?_⟩
  · refine zf_X3_demand k0.2 (fun s2 k20 => ?_)
    have k2 := k0.trans k20
    refine ⟨fun c3 => ?_, fun c3 => ?_⟩
    · exact zj_X7_followAccess_96 k2.2 (fun z q => h z (k2.trans q))
    · refine ⟨fun c4 => ?_, fun c4 => ?_⟩
      · exact zj_X7_followAccess_84 k2.2 (fun z q => h z (k2.trans q))
      · refine ⟨fun c5 => ?_, fun c5 => ?_⟩
        · exact zj_X7_followAccess_96 k2.2 (fun z q => h z (k2.trans q))
        · exact zj_X7_followAccess_84 k2.2 (fun z q => h z (k2.trans q))
  · refine ⟨fun c6 => ?_, fun c6 => ?_⟩
    · refine zf_X3_demand k0.2 (fun s3 k70 => ?_)
      have k7 := k0.trans k70
      refine ⟨fun c8 => ?_, fun c8 => ?_⟩
      · exact zj_X7_followAccess_96 k7.2 (fun z q => h z (k7.trans q))
      · refine ⟨fun c9 => ?_, fun c9 => ?_⟩
        · exact zj_X7_followAccess_84 k7.2 (fun z q => h z (k7.trans q))
        · refine ⟨fun c10 => ?_, fun c10 => ?_⟩
          · exact zj_X7_followAccess_96 k7.2 (fun z q => h z (k7.trans q))
          · exact zj_X7_followAccess_84 k7.2 (fun z q => h z (k7.trans q))
    · refine ⟨(vp_lh (vl_1 c1) (vh_1 c6) (by decide)), ?_⟩
      refine ⟨fun c11 => ?_, fun c11 => ?_⟩
      · refine zf_X3_demand k0.2 (fun s4 k120 => ?_)
        have k12 := k0.trans k120
        refine ⟨fun c13 => ?_, fun c13 => ?_⟩
        · exact zj_X7_followAccess_96 k12.2 (fun z q => h z (k12.trans q))
        · refine ⟨fun c14 => ?_, fun c14 => ?_⟩
          · exact zj_X7_followAccess_84 k12.2 (fun z q => h z (k12.trans q))
          · refine ⟨fun c15 => ?_, fun c15 => ?_⟩
            · exact zj_X7_followAccess_96 k12.2 (fun z q => h z (k12.trans q))
            · exact zj_X7_followAccess_84 k12.2 (fun z q => h z (k12.trans q))
      · refine zf_X3_demand k0.2 (fun s5 k160 => ?_)
        have k16 := k0.trans k160
        refine ⟨fun c17 => ?_, fun c17 => ?_⟩
        · exact zj_X7_followAccess_96 k16.2 (fun z q => h z (k16.trans q))
        · refine ⟨fun c18 => ?_, fun c18 => ?_⟩
          · exact zj_X7_followAccess_84 k16.2 (fun z q => h z (k16.trans q))
          · refine ⟨fun c19 => ?_, fun c19 => ?_⟩
            · exact zj_X7_followAccess_96 k16.2 (fun z q => h z (k16.trans q))
            · exact zj_X7_followAccess_84 k16.2 (fun z q => h z (k16.trans q))
theorem zr_X7_followAccess_0_1 {a1 : Int32} {s2 : zS} {K : zS → Prop} {QX : zS → Prop} (hv : sV s2) (h : ∀ z, tzR s2 z → K z) : ((a1 = (41 : Int32) →
            PX7_followAccess_96 (zQv K) QX a1 s2) ∧ (¬ a1 = (41 : Int32) →
            ((a1 < (48 : Int32) →
              PX7_followAccess_84 (zQv K) QX a1 s2) ∧ (¬ a1 < (48 : Int32) →
              ((a1 ≤ (53 : Int32) →
                PX7_followAccess_96 (zQv K) QX a1 s2) ∧ (¬ a1 ≤ (53 : Int32) →
                PX7_followAccess_84 (zQv K) QX a1 s2)))))) := by
  have k0 : tzR s2 s2 := ⟨tzK.rf, hv⟩
  refine ⟨fun c1 => ?_, fun c1 => ?_⟩
  · exact zj_X7_followAccess_96 k0.2 (fun z q => h z (k0.trans q))
  · refine ⟨fun c2 => ?_, fun c2 => ?_⟩
    · exact zj_X7_followAccess_84 k0.2 (fun z q => h z (k0.trans q))
    · refine ⟨fun c3 => ?_, fun c3 => ?_⟩
      · exact zj_X7_followAccess_96 k0.2 (fun z q => h z (k0.trans q))
      · exact zj_X7_followAccess_84 k0.2 (fun z q => h z (k0.trans q))
theorem zr_X7_followAccess_0_2 {a1 : Int32} {s3 : zS} {K : zS → Prop} {QX : zS → Prop} (hv : sV s3) (h : ∀ z, tzR s3 z → K z) : ((a1 = (41 : Int32) →
              PX7_followAccess_96 (zQv K) QX a1 s3) ∧ (¬ a1 = (41 : Int32) →
              ((a1 < (48 : Int32) →
                PX7_followAccess_84 (zQv K) QX a1 s3) ∧ (¬ a1 < (48 : Int32) →
                ((a1 ≤ (53 : Int32) →
                  PX7_followAccess_96 (zQv K) QX a1 s3) ∧ (¬ a1 ≤ (53 : Int32) →
                  PX7_followAccess_84 (zQv K) QX a1 s3)))))) := by
  have k0 : tzR s3 s3 := ⟨tzK.rf, hv⟩
  refine ⟨fun c1 => ?_, fun c1 => ?_⟩
  · exact zj_X7_followAccess_96 k0.2 (fun z q => h z (k0.trans q))
  · refine ⟨fun c2 => ?_, fun c2 => ?_⟩
    · exact zj_X7_followAccess_84 k0.2 (fun z q => h z (k0.trans q))
    · refine ⟨fun c3 => ?_, fun c3 => ?_⟩
      · exact zj_X7_followAccess_96 k0.2 (fun z q => h z (k0.trans q))
      · exact zj_X7_followAccess_84 k0.2 (fun z q => h z (k0.trans q))
theorem zr_X7_followAccess_0_3 {a1 : Int32} {s4 : zS} {K : zS → Prop} {QX : zS → Prop} (hv : sV s4) (h : ∀ z, tzR s4 z → K z) : ((a1 = (41 : Int32) →
                PX7_followAccess_96 (zQv K) QX a1 s4) ∧ (¬ a1 = (41 : Int32) →
                ((a1 < (48 : Int32) →
                  PX7_followAccess_84 (zQv K) QX a1 s4) ∧ (¬ a1 < (48 : Int32) →
                  ((a1 ≤ (53 : Int32) →
                    PX7_followAccess_96 (zQv K) QX a1 s4) ∧ (¬ a1 ≤ (53 : Int32) →
                    PX7_followAccess_84 (zQv K) QX a1 s4)))))) := by
  have k0 : tzR s4 s4 := ⟨tzK.rf, hv⟩
  refine ⟨fun c1 => ?_, fun c1 => ?_⟩
  · exact zj_X7_followAccess_96 k0.2 (fun z q => h z (k0.trans q))
  · refine ⟨fun c2 => ?_, fun c2 => ?_⟩
    · exact zj_X7_followAccess_84 k0.2 (fun z q => h z (k0.trans q))
    · refine ⟨fun c3 => ?_, fun c3 => ?_⟩
      · exact zj_X7_followAccess_96 k0.2 (fun z q => h z (k0.trans q))
      · exact zj_X7_followAccess_84 k0.2 (fun z q => h z (k0.trans q))
theorem zr_X7_followAccess_0_4 {a1 : Int32} {s5 : zS} {K : zS → Prop} {QX : zS → Prop} (hv : sV s5) (h : ∀ z, tzR s5 z → K z) : ((a1 = (41 : Int32) →
                PX7_followAccess_96 (zQv K) QX a1 s5) ∧ (¬ a1 = (41 : Int32) →
                ((a1 < (48 : Int32) →
                  PX7_followAccess_84 (zQv K) QX a1 s5) ∧ (¬ a1 < (48 : Int32) →
                  ((a1 ≤ (53 : Int32) →
                    PX7_followAccess_96 (zQv K) QX a1 s5) ∧ (¬ a1 ≤ (53 : Int32) →
                    PX7_followAccess_84 (zQv K) QX a1 s5)))))) := by
  have k0 : tzR s5 s5 := ⟨tzK.rf, hv⟩
  refine ⟨fun c1 => ?_, fun c1 => ?_⟩
  · exact zj_X7_followAccess_96 k0.2 (fun z q => h z (k0.trans q))
  · refine ⟨fun c2 => ?_, fun c2 => ?_⟩
    · exact zj_X7_followAccess_84 k0.2 (fun z q => h z (k0.trans q))
    · refine ⟨fun c3 => ?_, fun c3 => ?_⟩
      · exact zj_X7_followAccess_96 k0.2 (fun z q => h z (k0.trans q))
      · exact zj_X7_followAccess_84 k0.2 (fun z q => h z (k0.trans q))
theorem zr_X7_followAccess_0_5 {a1 : Int32} {a2 : Int64} {s6 : zS} {K : zS → Prop} {QX : zS → Prop} (hv : sV s6) (h : ∀ z, tzR s6 z → K z) : (((a1 - (40 : Int32)) < 0 →
        zCT zZC zmX3_demand [.ref 5, .int (0 : Int32)] s6 (zQv (fun s7 =>
          ((a1 = (41 : Int32) →
            PX7_followAccess_96 (zQv K) QX a1 s7) ∧ (¬ a1 = (41 : Int32) →
            ((a1 < (48 : Int32) →
              PX7_followAccess_84 (zQv K) QX a1 s7) ∧ (¬ a1 < (48 : Int32) →
              ((a1 ≤ (53 : Int32) →
                PX7_followAccess_96 (zQv K) QX a1 s7) ∧ (¬ a1 ≤ (53 : Int32) →
                PX7_followAccess_84 (zQv K) QX a1 s7)))))))) QX) ∧ (¬ (a1 - (40 : Int32)) < 0 →
        (((nI zt_ACCESS_WIDTHS_n) ≤ (a1 - (40 : Int32)) →
          zCT zZC zmX3_demand [.ref 5, .int (0 : Int32)] s6 (zQv (fun s8 =>
            ((a1 = (41 : Int32) →
              PX7_followAccess_96 (zQv K) QX a1 s8) ∧ (¬ a1 = (41 : Int32) →
              ((a1 < (48 : Int32) →
                PX7_followAccess_84 (zQv K) QX a1 s8) ∧ (¬ a1 < (48 : Int32) →
                ((a1 ≤ (53 : Int32) →
                  PX7_followAccess_96 (zQv K) QX a1 s8) ∧ (¬ a1 ≤ (53 : Int32) →
                  PX7_followAccess_84 (zQv K) QX a1 s8)))))))) QX) ∧ (¬ (nI zt_ACCESS_WIDTHS_n) ≤ (a1 - (40 : Int32)) →
          vp_in (a1 - (40 : Int32)) zt_ACCESS_WIDTHS_n ∧
          ((((zt_ACCESS_WIDTHS_f (a1 - (40 : Int32)).toNatClampNeg).toInt64) < a2 →
            zCT zZC zmX3_demand [.ref 5, .int (0 : Int32)] s6 (zQv (fun s9 =>
              ((a1 = (41 : Int32) →
                PX7_followAccess_96 (zQv K) QX a1 s9) ∧ (¬ a1 = (41 : Int32) →
                ((a1 < (48 : Int32) →
                  PX7_followAccess_84 (zQv K) QX a1 s9) ∧ (¬ a1 < (48 : Int32) →
                  ((a1 ≤ (53 : Int32) →
                    PX7_followAccess_96 (zQv K) QX a1 s9) ∧ (¬ a1 ≤ (53 : Int32) →
                    PX7_followAccess_84 (zQv K) QX a1 s9)))))))) QX) ∧ (¬ ((zt_ACCESS_WIDTHS_f (a1 - (40 : Int32)).toNatClampNeg).toInt64) < a2 →
            zCT zZC zmX3_demand [.ref 5, .int (1 : Int32)] s6 (zQv (fun s10 =>
              ((a1 = (41 : Int32) →
                PX7_followAccess_96 (zQv K) QX a1 s10) ∧ (¬ a1 = (41 : Int32) →
                ((a1 < (48 : Int32) →
                  PX7_followAccess_84 (zQv K) QX a1 s10) ∧ (¬ a1 < (48 : Int32) →
                  ((a1 ≤ (53 : Int32) →
                    PX7_followAccess_96 (zQv K) QX a1 s10) ∧ (¬ a1 ≤ (53 : Int32) →
                    PX7_followAccess_84 (zQv K) QX a1 s10)))))))) QX)))))) := by
  have k0 : tzR s6 s6 := ⟨tzK.rf, hv⟩
  refine ⟨fun c1 => ?_, fun c1 => ?_⟩
  · refine zf_X3_demand k0.2 (fun s7 k20 => ?_)
    have k2 := k0.trans k20
    refine ⟨fun c3 => ?_, fun c3 => ?_⟩
    · exact zj_X7_followAccess_96 k2.2 (fun z q => h z (k2.trans q))
    · refine ⟨fun c4 => ?_, fun c4 => ?_⟩
      · exact zj_X7_followAccess_84 k2.2 (fun z q => h z (k2.trans q))
      · refine ⟨fun c5 => ?_, fun c5 => ?_⟩
        · exact zj_X7_followAccess_96 k2.2 (fun z q => h z (k2.trans q))
        · exact zj_X7_followAccess_84 k2.2 (fun z q => h z (k2.trans q))
  · refine ⟨fun c6 => ?_, fun c6 => ?_⟩
    · refine zf_X3_demand k0.2 (fun s8 k70 => ?_)
      have k7 := k0.trans k70
      refine ⟨fun c8 => ?_, fun c8 => ?_⟩
      · exact zj_X7_followAccess_96 k7.2 (fun z q => h z (k7.trans q))
      · refine ⟨fun c9 => ?_, fun c9 => ?_⟩
        · exact zj_X7_followAccess_84 k7.2 (fun z q => h z (k7.trans q))
        · refine ⟨fun c10 => ?_, fun c10 => ?_⟩
          · exact zj_X7_followAccess_96 k7.2 (fun z q => h z (k7.trans q))
          · exact zj_X7_followAccess_84 k7.2 (fun z q => h z (k7.trans q))
    · refine ⟨(vp_lh (vl_1 c1) (vh_1 c6) (by decide)), ?_⟩
      refine ⟨fun c11 => ?_, fun c11 => ?_⟩
      · refine zf_X3_demand k0.2 (fun s9 k120 => ?_)
        have k12 := k0.trans k120
        refine ⟨fun c13 => ?_, fun c13 => ?_⟩
        · exact zj_X7_followAccess_96 k12.2 (fun z q => h z (k12.trans q))
        · refine ⟨fun c14 => ?_, fun c14 => ?_⟩
          · exact zj_X7_followAccess_84 k12.2 (fun z q => h z (k12.trans q))
          · refine ⟨fun c15 => ?_, fun c15 => ?_⟩
            · exact zj_X7_followAccess_96 k12.2 (fun z q => h z (k12.trans q))
            · exact zj_X7_followAccess_84 k12.2 (fun z q => h z (k12.trans q))
      · refine zf_X3_demand k0.2 (fun s10 k160 => ?_)
        have k16 := k0.trans k160
        refine ⟨fun c17 => ?_, fun c17 => ?_⟩
        · exact zj_X7_followAccess_96 k16.2 (fun z q => h z (k16.trans q))
        · refine ⟨fun c18 => ?_, fun c18 => ?_⟩
          · exact zj_X7_followAccess_84 k16.2 (fun z q => h z (k16.trans q))
          · refine ⟨fun c19 => ?_, fun c19 => ?_⟩
            · exact zj_X7_followAccess_96 k16.2 (fun z q => h z (k16.trans q))
            · exact zj_X7_followAccess_84 k16.2 (fun z q => h z (k16.trans q))
theorem zr_X7_followAccess_0_6 {a1 : Int32} {s7 : zS} {K : zS → Prop} {QX : zS → Prop} (hv : sV s7) (h : ∀ z, tzR s7 z → K z) : ((a1 = (41 : Int32) →
            PX7_followAccess_96 (zQv K) QX a1 s7) ∧ (¬ a1 = (41 : Int32) →
            ((a1 < (48 : Int32) →
              PX7_followAccess_84 (zQv K) QX a1 s7) ∧ (¬ a1 < (48 : Int32) →
              ((a1 ≤ (53 : Int32) →
                PX7_followAccess_96 (zQv K) QX a1 s7) ∧ (¬ a1 ≤ (53 : Int32) →
                PX7_followAccess_84 (zQv K) QX a1 s7)))))) := by
  have k0 : tzR s7 s7 := ⟨tzK.rf, hv⟩
  refine ⟨fun c1 => ?_, fun c1 => ?_⟩
  · exact zj_X7_followAccess_96 k0.2 (fun z q => h z (k0.trans q))
  · refine ⟨fun c2 => ?_, fun c2 => ?_⟩
    · exact zj_X7_followAccess_84 k0.2 (fun z q => h z (k0.trans q))
    · refine ⟨fun c3 => ?_, fun c3 => ?_⟩
      · exact zj_X7_followAccess_96 k0.2 (fun z q => h z (k0.trans q))
      · exact zj_X7_followAccess_84 k0.2 (fun z q => h z (k0.trans q))
theorem zr_X7_followAccess_0_7 {a1 : Int32} {s8 : zS} {K : zS → Prop} {QX : zS → Prop} (hv : sV s8) (h : ∀ z, tzR s8 z → K z) : ((a1 = (41 : Int32) →
              PX7_followAccess_96 (zQv K) QX a1 s8) ∧ (¬ a1 = (41 : Int32) →
              ((a1 < (48 : Int32) →
                PX7_followAccess_84 (zQv K) QX a1 s8) ∧ (¬ a1 < (48 : Int32) →
                ((a1 ≤ (53 : Int32) →
                  PX7_followAccess_96 (zQv K) QX a1 s8) ∧ (¬ a1 ≤ (53 : Int32) →
                  PX7_followAccess_84 (zQv K) QX a1 s8)))))) := by
  have k0 : tzR s8 s8 := ⟨tzK.rf, hv⟩
  refine ⟨fun c1 => ?_, fun c1 => ?_⟩
  · exact zj_X7_followAccess_96 k0.2 (fun z q => h z (k0.trans q))
  · refine ⟨fun c2 => ?_, fun c2 => ?_⟩
    · exact zj_X7_followAccess_84 k0.2 (fun z q => h z (k0.trans q))
    · refine ⟨fun c3 => ?_, fun c3 => ?_⟩
      · exact zj_X7_followAccess_96 k0.2 (fun z q => h z (k0.trans q))
      · exact zj_X7_followAccess_84 k0.2 (fun z q => h z (k0.trans q))
theorem zr_X7_followAccess_0_8 {a1 : Int32} {s9 : zS} {K : zS → Prop} {QX : zS → Prop} (hv : sV s9) (h : ∀ z, tzR s9 z → K z) : ((a1 = (41 : Int32) →
                PX7_followAccess_96 (zQv K) QX a1 s9) ∧ (¬ a1 = (41 : Int32) →
                ((a1 < (48 : Int32) →
                  PX7_followAccess_84 (zQv K) QX a1 s9) ∧ (¬ a1 < (48 : Int32) →
                  ((a1 ≤ (53 : Int32) →
                    PX7_followAccess_96 (zQv K) QX a1 s9) ∧ (¬ a1 ≤ (53 : Int32) →
                    PX7_followAccess_84 (zQv K) QX a1 s9)))))) := by
  have k0 : tzR s9 s9 := ⟨tzK.rf, hv⟩
  refine ⟨fun c1 => ?_, fun c1 => ?_⟩
  · exact zj_X7_followAccess_96 k0.2 (fun z q => h z (k0.trans q))
  · refine ⟨fun c2 => ?_, fun c2 => ?_⟩
    · exact zj_X7_followAccess_84 k0.2 (fun z q => h z (k0.trans q))
    · refine ⟨fun c3 => ?_, fun c3 => ?_⟩
      · exact zj_X7_followAccess_96 k0.2 (fun z q => h z (k0.trans q))
      · exact zj_X7_followAccess_84 k0.2 (fun z q => h z (k0.trans q))
theorem zr_X7_followAccess_0_9 {a1 : Int32} {s10 : zS} {K : zS → Prop} {QX : zS → Prop} (hv : sV s10) (h : ∀ z, tzR s10 z → K z) : ((a1 = (41 : Int32) →
                PX7_followAccess_96 (zQv K) QX a1 s10) ∧ (¬ a1 = (41 : Int32) →
                ((a1 < (48 : Int32) →
                  PX7_followAccess_84 (zQv K) QX a1 s10) ∧ (¬ a1 < (48 : Int32) →
                  ((a1 ≤ (53 : Int32) →
                    PX7_followAccess_96 (zQv K) QX a1 s10) ∧ (¬ a1 ≤ (53 : Int32) →
                    PX7_followAccess_84 (zQv K) QX a1 s10)))))) := by
  have k0 : tzR s10 s10 := ⟨tzK.rf, hv⟩
  refine ⟨fun c1 => ?_, fun c1 => ?_⟩
  · exact zj_X7_followAccess_96 k0.2 (fun z q => h z (k0.trans q))
  · refine ⟨fun c2 => ?_, fun c2 => ?_⟩
    · exact zj_X7_followAccess_84 k0.2 (fun z q => h z (k0.trans q))
    · refine ⟨fun c3 => ?_, fun c3 => ?_⟩
      · exact zj_X7_followAccess_96 k0.2 (fun z q => h z (k0.trans q))
      · exact zj_X7_followAccess_84 k0.2 (fun z q => h z (k0.trans q))
theorem zr_X7_followAccess_84_0 {s1 : zS} {K : zS → Prop} {QX : zS → Prop} (hv : sV s1) (h : ∀ z, tzR s1 z → K z) : zCT zZC zmX3_leave [.ref 5, .int (127 : Int32)] s1 (zQv (fun s3 =>
              zQv K none s3)) QX := by
  have k0 : tzR s1 s1 := ⟨tzK.rf, hv⟩
  refine zf_X3_leave k0.2 (fun s3 k10 => ?_)
  have k1 := k0.trans k10
  exact h _ k1
theorem zr_X7_followAccess_84_1 {s3 : zS} {K : zS → Prop} (hv : sV s3) (h : ∀ z, tzR s3 z → K z) : zQv K none s3 := by
  have k0 : tzR s3 s3 := ⟨tzK.rf, hv⟩
  exact h _ k0
theorem zr_X7_followAccess_84_2 {s4 : zS} {K : zS → Prop} {QX : zS → Prop} (hv : sV s4) (h : ∀ z, tzR s4 z → K z) : zCT zZC zmX3_take [.ref 5, .int (127 : Int32)] s4 (zQi (fun r7 s6 =>
              zQv K none s6)) QX := by
  have k0 : tzR s4 s4 := ⟨tzK.rf, hv⟩
  refine zf_X3_take k0.2 (fun r7 s6 k10 => ?_)
  have k1 := k0.trans k10
  exact h _ k1
theorem zr_X7_followAccess_84_3 {s6 : zS} {K : zS → Prop} (hv : sV s6) (h : ∀ z, tzR s6 z → K z) : zQv K none s6 := by
  have k0 : tzR s6 s6 := ⟨tzK.rf, hv⟩
  exact h _ k0
theorem zr_X7_followAccess_84_4 {s8 : zS} {K : zS → Prop} {QX : zS → Prop} (hv : sV s8) (h : ∀ z, tzR s8 z → K z) : zCT zZC zmX3_leave [.ref 5, .int (126 : Int32)] s8 (zQv (fun s10 =>
              zQv K none s10)) QX := by
  have k0 : tzR s8 s8 := ⟨tzK.rf, hv⟩
  refine zf_X3_leave k0.2 (fun s10 k10 => ?_)
  have k1 := k0.trans k10
  exact h _ k1
theorem zr_X7_followAccess_84_5 {s10 : zS} {K : zS → Prop} (hv : sV s10) (h : ∀ z, tzR s10 z → K z) : zQv K none s10 := by
  have k0 : tzR s10 s10 := ⟨tzK.rf, hv⟩
  exact h _ k0
theorem zr_X7_followAccess_84_6 {s11 : zS} {K : zS → Prop} {QX : zS → Prop} (hv : sV s11) (h : ∀ z, tzR s11 z → K z) : zCT zZC zmX3_take [.ref 5, .int (127 : Int32)] s11 (zQi (fun r14 s13 =>
              zQv K none s13)) QX := by
  have k0 : tzR s11 s11 := ⟨tzK.rf, hv⟩
  refine zf_X3_take k0.2 (fun r14 s13 k10 => ?_)
  have k1 := k0.trans k10
  exact h _ k1
theorem zr_X7_followAccess_84_7 {s13 : zS} {K : zS → Prop} (hv : sV s13) (h : ∀ z, tzR s13 z → K z) : zQv K none s13 := by
  have k0 : tzR s13 s13 := ⟨tzK.rf, hv⟩
  exact h _ k0
theorem zr_X7_followAccess_96_0 {s1 : zS} {K : zS → Prop} {QX : zS → Prop} (hv : sV s1) (h : ∀ z, tzR s1 z → K z) : zCT zZC zmX3_leave [.ref 5, .int (127 : Int32)] s1 (zQv (fun s3 =>
          zQv K none s3)) QX := by
  have k0 : tzR s1 s1 := ⟨tzK.rf, hv⟩
  refine zf_X3_leave k0.2 (fun s3 k10 => ?_)
  have k1 := k0.trans k10
  exact h _ k1
theorem zr_X7_followAccess_96_1 {s3 : zS} {K : zS → Prop} (hv : sV s3) (h : ∀ z, tzR s3 z → K z) : zQv K none s3 := by
  have k0 : tzR s3 s3 := ⟨tzK.rf, hv⟩
  exact h _ k0
theorem zr_X7_followAccess_96_2 {s4 : zS} {K : zS → Prop} {QX : zS → Prop} (hv : sV s4) (h : ∀ z, tzR s4 z → K z) : zCT zZC zmX3_take [.ref 5, .int (127 : Int32)] s4 (zQi (fun r7 s6 =>
          zQv K none s6)) QX := by
  have k0 : tzR s4 s4 := ⟨tzK.rf, hv⟩
  refine zf_X3_take k0.2 (fun r7 s6 k10 => ?_)
  have k1 := k0.trans k10
  exact h _ k1
theorem zr_X7_followAccess_96_3 {s6 : zS} {K : zS → Prop} (hv : sV s6) (h : ∀ z, tzR s6 z → K z) : zQv K none s6 := by
  have k0 : tzR s6 s6 := ⟨tzK.rf, hv⟩
  exact h _ k0
theorem zr_X7_followAccess_96_4 {s8 : zS} {K : zS → Prop} {QX : zS → Prop} (hv : sV s8) (h : ∀ z, tzR s8 z → K z) : zCT zZC zmX3_leave [.ref 5, .int (126 : Int32)] s8 (zQv (fun s10 =>
          zQv K none s10)) QX := by
  have k0 : tzR s8 s8 := ⟨tzK.rf, hv⟩
  refine zf_X3_leave k0.2 (fun s10 k10 => ?_)
  have k1 := k0.trans k10
  exact h _ k1
theorem zr_X7_followAccess_96_5 {s10 : zS} {K : zS → Prop} (hv : sV s10) (h : ∀ z, tzR s10 z → K z) : zQv K none s10 := by
  have k0 : tzR s10 s10 := ⟨tzK.rf, hv⟩
  exact h _ k0
theorem zr_X7_followAccess_96_6 {s11 : zS} {K : zS → Prop} {QX : zS → Prop} (hv : sV s11) (h : ∀ z, tzR s11 z → K z) : zCT zZC zmX3_take [.ref 5, .int (127 : Int32)] s11 (zQi (fun r14 s13 =>
          zQv K none s13)) QX := by
  have k0 : tzR s11 s11 := ⟨tzK.rf, hv⟩
  refine zf_X3_take k0.2 (fun r14 s13 k10 => ?_)
  have k1 := k0.trans k10
  exact h _ k1
theorem zr_X7_followAccess_96_7 {s13 : zS} {K : zS → Prop} (hv : sV s13) (h : ∀ z, tzR s13 z → K z) : zQv K none s13 := by
  have k0 : tzR s13 s13 := ⟨tzK.rf, hv⟩
  exact h _ k0
theorem zr_X7_followSize_0_0 {a1 : Int32} {s1 : zS} {K : zS → Prop} {QX : zS → Prop} (hv : sV s1) (h : ∀ z, tzR s1 z → K z) : ((a1 = (64 : Int32) →
        zCT zZC zmX3_take [.ref 5, .int (127 : Int32)] s1 (zQi (fun r3 s2 =>
          zCT zZC zmX3_leave [.ref 5, .int (127 : Int32)] s2 (zQv (fun s4 =>
            zQv K none s4)) QX)) QX) ∧ (¬ a1 = (64 : Int32) →
        zCT zZC zmX3_leave [.ref 5, .int (127 : Int32)] s1 (zQv (fun s5 =>
          zQv K none s5)) QX)) := by
  have k0 : tzR s1 s1 := ⟨tzK.rf, hv⟩
  refine ⟨fun c1 => ?_, fun c1 => ?_⟩
  · refine zf_X3_take k0.2 (fun r3 s2 k20 => ?_)
    have k2 := k0.trans k20
    refine zf_X3_leave k2.2 (fun s4 k30 => ?_)
    have k3 := k2.trans k30
    exact h _ k3
  · refine zf_X3_leave k0.2 (fun s5 k40 => ?_)
    have k4 := k0.trans k40
    exact h _ k4
theorem zr_X7_followSize_0_1 {s2 : zS} {K : zS → Prop} {QX : zS → Prop} (hv : sV s2) (h : ∀ z, tzR s2 z → K z) : zCT zZC zmX3_leave [.ref 5, .int (127 : Int32)] s2 (zQv (fun s4 =>
            zQv K none s4)) QX := by
  have k0 : tzR s2 s2 := ⟨tzK.rf, hv⟩
  refine zf_X3_leave k0.2 (fun s4 k10 => ?_)
  have k1 := k0.trans k10
  exact h _ k1
theorem zr_X7_followSize_0_2 {s4 : zS} {K : zS → Prop} (hv : sV s4) (h : ∀ z, tzR s4 z → K z) : zQv K none s4 := by
  have k0 : tzR s4 s4 := ⟨tzK.rf, hv⟩
  exact h _ k0
theorem zr_X7_followSize_0_3 {s5 : zS} {K : zS → Prop} (hv : sV s5) (h : ∀ z, tzR s5 z → K z) : zQv K none s5 := by
  have k0 : tzR s5 s5 := ⟨tzK.rf, hv⟩
  exact h _ k0
theorem zr_X7_followSize_0_4 {a1 : Int32} {s6 : zS} {K : zS → Prop} {QX : zS → Prop} (hv : sV s6) (h : ∀ z, tzR s6 z → K z) : ((a1 = (64 : Int32) →
        zCT zZC zmX3_take [.ref 5, .int (127 : Int32)] s6 (zQi (fun r8 s7 =>
          zCT zZC zmX3_leave [.ref 5, .int (127 : Int32)] s7 (zQv (fun s9 =>
            zQv K none s9)) QX)) QX) ∧ (¬ a1 = (64 : Int32) →
        zCT zZC zmX3_leave [.ref 5, .int (127 : Int32)] s6 (zQv (fun s10 =>
          zQv K none s10)) QX)) := by
  have k0 : tzR s6 s6 := ⟨tzK.rf, hv⟩
  refine ⟨fun c1 => ?_, fun c1 => ?_⟩
  · refine zf_X3_take k0.2 (fun r8 s7 k20 => ?_)
    have k2 := k0.trans k20
    refine zf_X3_leave k2.2 (fun s9 k30 => ?_)
    have k3 := k2.trans k30
    exact h _ k3
  · refine zf_X3_leave k0.2 (fun s10 k40 => ?_)
    have k4 := k0.trans k40
    exact h _ k4
theorem zr_X7_followSize_0_5 {s7 : zS} {K : zS → Prop} {QX : zS → Prop} (hv : sV s7) (h : ∀ z, tzR s7 z → K z) : zCT zZC zmX3_leave [.ref 5, .int (127 : Int32)] s7 (zQv (fun s9 =>
            zQv K none s9)) QX := by
  have k0 : tzR s7 s7 := ⟨tzK.rf, hv⟩
  refine zf_X3_leave k0.2 (fun s9 k10 => ?_)
  have k1 := k0.trans k10
  exact h _ k1
theorem zr_X7_followSize_0_6 {s9 : zS} {K : zS → Prop} (hv : sV s9) (h : ∀ z, tzR s9 z → K z) : zQv K none s9 := by
  have k0 : tzR s9 s9 := ⟨tzK.rf, hv⟩
  exact h _ k0
theorem zr_X7_followSize_0_7 {s10 : zS} {K : zS → Prop} (hv : sV s10) (h : ∀ z, tzR s10 z → K z) : zQv K none s10 := by
  have k0 : tzR s10 s10 := ⟨tzK.rf, hv⟩
  exact h _ k0
theorem zr_X7_followPlain_0_0 {s1 : zS} {K : zS → Prop} (hv : sV s1) (h : ∀ z, tzR s1 z → K z) : zQv K none s1 := by
  have k0 : tzR s1 s1 := ⟨tzK.rf, hv⟩
  exact h _ k0
theorem zr_X7_followPlain_0_1 {s2 : zS} {K : zS → Prop} (hv : sV s2) (h : ∀ z, tzR s2 z → K z) : zQv K none s2 := by
  have k0 : tzR s2 s2 := ⟨tzK.rf, hv⟩
  exact h _ k0
theorem zr_X7_followPlain_0_2 {a1 : Int32} {r4 : Int32} {s3 : zS} {K : zS → Prop} {QX : zS → Prop} (hv : sV s3) (h : ∀ z, tzR s3 z → K z) : ((r4 = 0 →
          zCT zZC zmX3_take [.ref 5, .int (127 : Int32)] s3 (zQi (fun r6 s5 =>
            zCT zZC zmX7_takesTwo [.int a1] s5 (zQi (fun r8 s7 =>
              ((r8 = 0 →
                zCT zZC zmX7_leavesLong [.int a1] s7 (zQi (fun r10 s9 =>
                  ((r10 = 0 →
                    zCT zZC zmX3_leave [.ref 5, .int (127 : Int32)] s9 (zQv (fun s11 =>
                      zQv K none s11)) QX) ∧ (¬ r10 = 0 →
                    zCT zZC zmX3_leave [.ref 5, .int (126 : Int32)] s9 (zQv (fun s12 =>
                      zQv K none s12)) QX)))) QX) ∧ (¬ r8 = 0 →
                zCT zZC zmX3_take [.ref 5, .int (127 : Int32)] s7 (zQi (fun r14 s13 =>
                  zCT zZC zmX7_leavesLong [.int a1] s13 (zQi (fun r16 s15 =>
                    ((r16 = 0 →
                      zCT zZC zmX3_leave [.ref 5, .int (127 : Int32)] s15 (zQv (fun s17 =>
                        zQv K none s17)) QX) ∧ (¬ r16 = 0 →
                      zCT zZC zmX3_leave [.ref 5, .int (126 : Int32)] s15 (zQv (fun s18 =>
                        zQv K none s18)) QX)))) QX)) QX)))) QX)) QX) ∧ (¬ r4 = 0 →
          zCT zZC zmX3_take [.ref 5, .int (126 : Int32)] s3 (zQi (fun r20 s19 =>
            zCT zZC zmX7_takesTwo [.int a1] s19 (zQi (fun r22 s21 =>
              ((r22 = 0 →
                zCT zZC zmX7_leavesLong [.int a1] s21 (zQi (fun r24 s23 =>
                  ((r24 = 0 →
                    zCT zZC zmX3_leave [.ref 5, .int (127 : Int32)] s23 (zQv (fun s25 =>
                      zQv K none s25)) QX) ∧ (¬ r24 = 0 →
                    zCT zZC zmX3_leave [.ref 5, .int (126 : Int32)] s23 (zQv (fun s26 =>
                      zQv K none s26)) QX)))) QX) ∧ (¬ r22 = 0 →
                zCT zZC zmX3_take [.ref 5, .int (126 : Int32)] s21 (zQi (fun r28 s27 =>
                  zCT zZC zmX7_leavesLong [.int a1] s27 (zQi (fun r30 s29 =>
                    ((r30 = 0 →
                      zCT zZC zmX3_leave [.ref 5, .int (127 : Int32)] s29 (zQv (fun s31 =>
                        zQv K none s31)) QX) ∧ (¬ r30 = 0 →
                      zCT zZC zmX3_leave [.ref 5, .int (126 : Int32)] s29 (zQv (fun s32 =>
                        zQv K none s32)) QX)))) QX)) QX)))) QX)) QX)) := by
  have k0 : tzR s3 s3 := ⟨tzK.rf, hv⟩
  refine ⟨fun c1 => ?_, fun c1 => ?_⟩
  · refine zf_X3_take k0.2 (fun r6 s5 k20 => ?_)
    have k2 := k0.trans k20
    refine zf_X7_takesTwo k2.2 (fun r8 s7 b4 k30 => ?_)
    have k3 := k2.trans k30
    refine ⟨fun c5 => ?_, fun c5 => ?_⟩
    · refine zf_X7_leavesLong k3.2 (fun r10 s9 b7 k60 => ?_)
      have k6 := k3.trans k60
      refine ⟨fun c8 => ?_, fun c8 => ?_⟩
      · refine zf_X3_leave k6.2 (fun s11 k90 => ?_)
        have k9 := k6.trans k90
        exact h _ k9
      · refine zf_X3_leave k6.2 (fun s12 k100 => ?_)
        have k10 := k6.trans k100
        exact h _ k10
    · refine zf_X3_take k3.2 (fun r14 s13 k110 => ?_)
      have k11 := k3.trans k110
      refine zf_X7_leavesLong k11.2 (fun r16 s15 b13 k120 => ?_)
      have k12 := k11.trans k120
      refine ⟨fun c14 => ?_, fun c14 => ?_⟩
      · refine zf_X3_leave k12.2 (fun s17 k150 => ?_)
        have k15 := k12.trans k150
        exact h _ k15
      · refine zf_X3_leave k12.2 (fun s18 k160 => ?_)
        have k16 := k12.trans k160
        exact h _ k16
  · refine zf_X3_take k0.2 (fun r20 s19 k170 => ?_)
    have k17 := k0.trans k170
    refine zf_X7_takesTwo k17.2 (fun r22 s21 b19 k180 => ?_)
    have k18 := k17.trans k180
    refine ⟨fun c20 => ?_, fun c20 => ?_⟩
    · refine zf_X7_leavesLong k18.2 (fun r24 s23 b22 k210 => ?_)
      have k21 := k18.trans k210
      refine ⟨fun c23 => ?_, fun c23 => ?_⟩
      · refine zf_X3_leave k21.2 (fun s25 k240 => ?_)
        have k24 := k21.trans k240
        exact h _ k24
      · refine zf_X3_leave k21.2 (fun s26 k250 => ?_)
        have k25 := k21.trans k250
        exact h _ k25
    · refine zf_X3_take k18.2 (fun r28 s27 k260 => ?_)
      have k26 := k18.trans k260
      refine zf_X7_leavesLong k26.2 (fun r30 s29 b28 k270 => ?_)
      have k27 := k26.trans k270
      refine ⟨fun c29 => ?_, fun c29 => ?_⟩
      · refine zf_X3_leave k27.2 (fun s31 k300 => ?_)
        have k30 := k27.trans k300
        exact h _ k30
      · refine zf_X3_leave k27.2 (fun s32 k310 => ?_)
        have k31 := k27.trans k310
        exact h _ k31
theorem zr_X7_followPlain_0_3 {a1 : Int32} {s5 : zS} {K : zS → Prop} {QX : zS → Prop} (hv : sV s5) (h : ∀ z, tzR s5 z → K z) : zCT zZC zmX7_takesTwo [.int a1] s5 (zQi (fun r8 s7 =>
              ((r8 = 0 →
                zCT zZC zmX7_leavesLong [.int a1] s7 (zQi (fun r10 s9 =>
                  ((r10 = 0 →
                    zCT zZC zmX3_leave [.ref 5, .int (127 : Int32)] s9 (zQv (fun s11 =>
                      zQv K none s11)) QX) ∧ (¬ r10 = 0 →
                    zCT zZC zmX3_leave [.ref 5, .int (126 : Int32)] s9 (zQv (fun s12 =>
                      zQv K none s12)) QX)))) QX) ∧ (¬ r8 = 0 →
                zCT zZC zmX3_take [.ref 5, .int (127 : Int32)] s7 (zQi (fun r14 s13 =>
                  zCT zZC zmX7_leavesLong [.int a1] s13 (zQi (fun r16 s15 =>
                    ((r16 = 0 →
                      zCT zZC zmX3_leave [.ref 5, .int (127 : Int32)] s15 (zQv (fun s17 =>
                        zQv K none s17)) QX) ∧ (¬ r16 = 0 →
                      zCT zZC zmX3_leave [.ref 5, .int (126 : Int32)] s15 (zQv (fun s18 =>
                        zQv K none s18)) QX)))) QX)) QX)))) QX := by
  have k0 : tzR s5 s5 := ⟨tzK.rf, hv⟩
  refine zf_X7_takesTwo k0.2 (fun r8 s7 b2 k10 => ?_)
  have k1 := k0.trans k10
  refine ⟨fun c3 => ?_, fun c3 => ?_⟩
  · refine zf_X7_leavesLong k1.2 (fun r10 s9 b5 k40 => ?_)
    have k4 := k1.trans k40
    refine ⟨fun c6 => ?_, fun c6 => ?_⟩
    · refine zf_X3_leave k4.2 (fun s11 k70 => ?_)
      have k7 := k4.trans k70
      exact h _ k7
    · refine zf_X3_leave k4.2 (fun s12 k80 => ?_)
      have k8 := k4.trans k80
      exact h _ k8
  · refine zf_X3_take k1.2 (fun r14 s13 k90 => ?_)
    have k9 := k1.trans k90
    refine zf_X7_leavesLong k9.2 (fun r16 s15 b11 k100 => ?_)
    have k10 := k9.trans k100
    refine ⟨fun c12 => ?_, fun c12 => ?_⟩
    · refine zf_X3_leave k10.2 (fun s17 k130 => ?_)
      have k13 := k10.trans k130
      exact h _ k13
    · refine zf_X3_leave k10.2 (fun s18 k140 => ?_)
      have k14 := k10.trans k140
      exact h _ k14
theorem zr_X7_followPlain_0_4 {a1 : Int32} {r8 : Int32} {s7 : zS} {K : zS → Prop} {QX : zS → Prop} (hv : sV s7) (h : ∀ z, tzR s7 z → K z) : ((r8 = 0 →
                zCT zZC zmX7_leavesLong [.int a1] s7 (zQi (fun r10 s9 =>
                  ((r10 = 0 →
                    zCT zZC zmX3_leave [.ref 5, .int (127 : Int32)] s9 (zQv (fun s11 =>
                      zQv K none s11)) QX) ∧ (¬ r10 = 0 →
                    zCT zZC zmX3_leave [.ref 5, .int (126 : Int32)] s9 (zQv (fun s12 =>
                      zQv K none s12)) QX)))) QX) ∧ (¬ r8 = 0 →
                zCT zZC zmX3_take [.ref 5, .int (127 : Int32)] s7 (zQi (fun r14 s13 =>
                  zCT zZC zmX7_leavesLong [.int a1] s13 (zQi (fun r16 s15 =>
                    ((r16 = 0 →
                      zCT zZC zmX3_leave [.ref 5, .int (127 : Int32)] s15 (zQv (fun s17 =>
                        zQv K none s17)) QX) ∧ (¬ r16 = 0 →
                      zCT zZC zmX3_leave [.ref 5, .int (126 : Int32)] s15 (zQv (fun s18 =>
                        zQv K none s18)) QX)))) QX)) QX)) := by
  have k0 : tzR s7 s7 := ⟨tzK.rf, hv⟩
  refine ⟨fun c1 => ?_, fun c1 => ?_⟩
  · refine zf_X7_leavesLong k0.2 (fun r10 s9 b3 k20 => ?_)
    have k2 := k0.trans k20
    refine ⟨fun c4 => ?_, fun c4 => ?_⟩
    · refine zf_X3_leave k2.2 (fun s11 k50 => ?_)
      have k5 := k2.trans k50
      exact h _ k5
    · refine zf_X3_leave k2.2 (fun s12 k60 => ?_)
      have k6 := k2.trans k60
      exact h _ k6
  · refine zf_X3_take k0.2 (fun r14 s13 k70 => ?_)
    have k7 := k0.trans k70
    refine zf_X7_leavesLong k7.2 (fun r16 s15 b9 k80 => ?_)
    have k8 := k7.trans k80
    refine ⟨fun c10 => ?_, fun c10 => ?_⟩
    · refine zf_X3_leave k8.2 (fun s17 k110 => ?_)
      have k11 := k8.trans k110
      exact h _ k11
    · refine zf_X3_leave k8.2 (fun s18 k120 => ?_)
      have k12 := k8.trans k120
      exact h _ k12
theorem zr_X7_followPlain_0_5 {r10 : Int32} {s9 : zS} {K : zS → Prop} {QX : zS → Prop} (hv : sV s9) (h : ∀ z, tzR s9 z → K z) : ((r10 = 0 →
                    zCT zZC zmX3_leave [.ref 5, .int (127 : Int32)] s9 (zQv (fun s11 =>
                      zQv K none s11)) QX) ∧ (¬ r10 = 0 →
                    zCT zZC zmX3_leave [.ref 5, .int (126 : Int32)] s9 (zQv (fun s12 =>
                      zQv K none s12)) QX)) := by
  have k0 : tzR s9 s9 := ⟨tzK.rf, hv⟩
  refine ⟨fun c1 => ?_, fun c1 => ?_⟩
  · refine zf_X3_leave k0.2 (fun s11 k20 => ?_)
    have k2 := k0.trans k20
    exact h _ k2
  · refine zf_X3_leave k0.2 (fun s12 k30 => ?_)
    have k3 := k0.trans k30
    exact h _ k3
theorem zr_X7_followPlain_0_6 {s11 : zS} {K : zS → Prop} (hv : sV s11) (h : ∀ z, tzR s11 z → K z) : zQv K none s11 := by
  have k0 : tzR s11 s11 := ⟨tzK.rf, hv⟩
  exact h _ k0
theorem zr_X7_followPlain_0_7 {s12 : zS} {K : zS → Prop} (hv : sV s12) (h : ∀ z, tzR s12 z → K z) : zQv K none s12 := by
  have k0 : tzR s12 s12 := ⟨tzK.rf, hv⟩
  exact h _ k0
theorem zr_X7_followPlain_0_8 {a1 : Int32} {s13 : zS} {K : zS → Prop} {QX : zS → Prop} (hv : sV s13) (h : ∀ z, tzR s13 z → K z) : zCT zZC zmX7_leavesLong [.int a1] s13 (zQi (fun r16 s15 =>
                    ((r16 = 0 →
                      zCT zZC zmX3_leave [.ref 5, .int (127 : Int32)] s15 (zQv (fun s17 =>
                        zQv K none s17)) QX) ∧ (¬ r16 = 0 →
                      zCT zZC zmX3_leave [.ref 5, .int (126 : Int32)] s15 (zQv (fun s18 =>
                        zQv K none s18)) QX)))) QX := by
  have k0 : tzR s13 s13 := ⟨tzK.rf, hv⟩
  refine zf_X7_leavesLong k0.2 (fun r16 s15 b2 k10 => ?_)
  have k1 := k0.trans k10
  refine ⟨fun c3 => ?_, fun c3 => ?_⟩
  · refine zf_X3_leave k1.2 (fun s17 k40 => ?_)
    have k4 := k1.trans k40
    exact h _ k4
  · refine zf_X3_leave k1.2 (fun s18 k50 => ?_)
    have k5 := k1.trans k50
    exact h _ k5
theorem zr_X7_followPlain_0_9 {r16 : Int32} {s15 : zS} {K : zS → Prop} {QX : zS → Prop} (hv : sV s15) (h : ∀ z, tzR s15 z → K z) : ((r16 = 0 →
                      zCT zZC zmX3_leave [.ref 5, .int (127 : Int32)] s15 (zQv (fun s17 =>
                        zQv K none s17)) QX) ∧ (¬ r16 = 0 →
                      zCT zZC zmX3_leave [.ref 5, .int (126 : Int32)] s15 (zQv (fun s18 =>
                        zQv K none s18)) QX)) := by
  have k0 : tzR s15 s15 := ⟨tzK.rf, hv⟩
  refine ⟨fun c1 => ?_, fun c1 => ?_⟩
  · refine zf_X3_leave k0.2 (fun s17 k20 => ?_)
    have k2 := k0.trans k20
    exact h _ k2
  · refine zf_X3_leave k0.2 (fun s18 k30 => ?_)
    have k3 := k0.trans k30
    exact h _ k3
theorem zr_X7_followPlain_0_10 {s17 : zS} {K : zS → Prop} (hv : sV s17) (h : ∀ z, tzR s17 z → K z) : zQv K none s17 := by
  have k0 : tzR s17 s17 := ⟨tzK.rf, hv⟩
  exact h _ k0
theorem zr_X7_followPlain_0_11 {s18 : zS} {K : zS → Prop} (hv : sV s18) (h : ∀ z, tzR s18 z → K z) : zQv K none s18 := by
  have k0 : tzR s18 s18 := ⟨tzK.rf, hv⟩
  exact h _ k0
theorem zr_X7_followPlain_0_12 {a1 : Int32} {s19 : zS} {K : zS → Prop} {QX : zS → Prop} (hv : sV s19) (h : ∀ z, tzR s19 z → K z) : zCT zZC zmX7_takesTwo [.int a1] s19 (zQi (fun r22 s21 =>
              ((r22 = 0 →
                zCT zZC zmX7_leavesLong [.int a1] s21 (zQi (fun r24 s23 =>
                  ((r24 = 0 →
                    zCT zZC zmX3_leave [.ref 5, .int (127 : Int32)] s23 (zQv (fun s25 =>
                      zQv K none s25)) QX) ∧ (¬ r24 = 0 →
                    zCT zZC zmX3_leave [.ref 5, .int (126 : Int32)] s23 (zQv (fun s26 =>
                      zQv K none s26)) QX)))) QX) ∧ (¬ r22 = 0 →
                zCT zZC zmX3_take [.ref 5, .int (126 : Int32)] s21 (zQi (fun r28 s27 =>
                  zCT zZC zmX7_leavesLong [.int a1] s27 (zQi (fun r30 s29 =>
                    ((r30 = 0 →
                      zCT zZC zmX3_leave [.ref 5, .int (127 : Int32)] s29 (zQv (fun s31 =>
                        zQv K none s31)) QX) ∧ (¬ r30 = 0 →
                      zCT zZC zmX3_leave [.ref 5, .int (126 : Int32)] s29 (zQv (fun s32 =>
                        zQv K none s32)) QX)))) QX)) QX)))) QX := by
  have k0 : tzR s19 s19 := ⟨tzK.rf, hv⟩
  refine zf_X7_takesTwo k0.2 (fun r22 s21 b2 k10 => ?_)
  have k1 := k0.trans k10
  refine ⟨fun c3 => ?_, fun c3 => ?_⟩
  · refine zf_X7_leavesLong k1.2 (fun r24 s23 b5 k40 => ?_)
    have k4 := k1.trans k40
    refine ⟨fun c6 => ?_, fun c6 => ?_⟩
    · refine zf_X3_leave k4.2 (fun s25 k70 => ?_)
      have k7 := k4.trans k70
      exact h _ k7
    · refine zf_X3_leave k4.2 (fun s26 k80 => ?_)
      have k8 := k4.trans k80
      exact h _ k8
  · refine zf_X3_take k1.2 (fun r28 s27 k90 => ?_)
    have k9 := k1.trans k90
    refine zf_X7_leavesLong k9.2 (fun r30 s29 b11 k100 => ?_)
    have k10 := k9.trans k100
    refine ⟨fun c12 => ?_, fun c12 => ?_⟩
    · refine zf_X3_leave k10.2 (fun s31 k130 => ?_)
      have k13 := k10.trans k130
      exact h _ k13
    · refine zf_X3_leave k10.2 (fun s32 k140 => ?_)
      have k14 := k10.trans k140
      exact h _ k14
theorem zr_X7_followPlain_0_13 {a1 : Int32} {r22 : Int32} {s21 : zS} {K : zS → Prop} {QX : zS → Prop} (hv : sV s21) (h : ∀ z, tzR s21 z → K z) : ((r22 = 0 →
                zCT zZC zmX7_leavesLong [.int a1] s21 (zQi (fun r24 s23 =>
                  ((r24 = 0 →
                    zCT zZC zmX3_leave [.ref 5, .int (127 : Int32)] s23 (zQv (fun s25 =>
                      zQv K none s25)) QX) ∧ (¬ r24 = 0 →
                    zCT zZC zmX3_leave [.ref 5, .int (126 : Int32)] s23 (zQv (fun s26 =>
                      zQv K none s26)) QX)))) QX) ∧ (¬ r22 = 0 →
                zCT zZC zmX3_take [.ref 5, .int (126 : Int32)] s21 (zQi (fun r28 s27 =>
                  zCT zZC zmX7_leavesLong [.int a1] s27 (zQi (fun r30 s29 =>
                    ((r30 = 0 →
                      zCT zZC zmX3_leave [.ref 5, .int (127 : Int32)] s29 (zQv (fun s31 =>
                        zQv K none s31)) QX) ∧ (¬ r30 = 0 →
                      zCT zZC zmX3_leave [.ref 5, .int (126 : Int32)] s29 (zQv (fun s32 =>
                        zQv K none s32)) QX)))) QX)) QX)) := by
  have k0 : tzR s21 s21 := ⟨tzK.rf, hv⟩
  refine ⟨fun c1 => ?_, fun c1 => ?_⟩
  · refine zf_X7_leavesLong k0.2 (fun r24 s23 b3 k20 => ?_)
    have k2 := k0.trans k20
    refine ⟨fun c4 => ?_, fun c4 => ?_⟩
    · refine zf_X3_leave k2.2 (fun s25 k50 => ?_)
      have k5 := k2.trans k50
      exact h _ k5
    · refine zf_X3_leave k2.2 (fun s26 k60 => ?_)
      have k6 := k2.trans k60
      exact h _ k6
  · refine zf_X3_take k0.2 (fun r28 s27 k70 => ?_)
    have k7 := k0.trans k70
    refine zf_X7_leavesLong k7.2 (fun r30 s29 b9 k80 => ?_)
    have k8 := k7.trans k80
    refine ⟨fun c10 => ?_, fun c10 => ?_⟩
    · refine zf_X3_leave k8.2 (fun s31 k110 => ?_)
      have k11 := k8.trans k110
      exact h _ k11
    · refine zf_X3_leave k8.2 (fun s32 k120 => ?_)
      have k12 := k8.trans k120
      exact h _ k12
theorem zr_X7_followPlain_0_14 {r24 : Int32} {s23 : zS} {K : zS → Prop} {QX : zS → Prop} (hv : sV s23) (h : ∀ z, tzR s23 z → K z) : ((r24 = 0 →
                    zCT zZC zmX3_leave [.ref 5, .int (127 : Int32)] s23 (zQv (fun s25 =>
                      zQv K none s25)) QX) ∧ (¬ r24 = 0 →
                    zCT zZC zmX3_leave [.ref 5, .int (126 : Int32)] s23 (zQv (fun s26 =>
                      zQv K none s26)) QX)) := by
  have k0 : tzR s23 s23 := ⟨tzK.rf, hv⟩
  refine ⟨fun c1 => ?_, fun c1 => ?_⟩
  · refine zf_X3_leave k0.2 (fun s25 k20 => ?_)
    have k2 := k0.trans k20
    exact h _ k2
  · refine zf_X3_leave k0.2 (fun s26 k30 => ?_)
    have k3 := k0.trans k30
    exact h _ k3
theorem zr_X7_followPlain_0_15 {s25 : zS} {K : zS → Prop} (hv : sV s25) (h : ∀ z, tzR s25 z → K z) : zQv K none s25 := by
  have k0 : tzR s25 s25 := ⟨tzK.rf, hv⟩
  exact h _ k0
theorem zr_X7_followPlain_0_16 {s26 : zS} {K : zS → Prop} (hv : sV s26) (h : ∀ z, tzR s26 z → K z) : zQv K none s26 := by
  have k0 : tzR s26 s26 := ⟨tzK.rf, hv⟩
  exact h _ k0
theorem zr_X7_followPlain_0_17 {a1 : Int32} {s27 : zS} {K : zS → Prop} {QX : zS → Prop} (hv : sV s27) (h : ∀ z, tzR s27 z → K z) : zCT zZC zmX7_leavesLong [.int a1] s27 (zQi (fun r30 s29 =>
                    ((r30 = 0 →
                      zCT zZC zmX3_leave [.ref 5, .int (127 : Int32)] s29 (zQv (fun s31 =>
                        zQv K none s31)) QX) ∧ (¬ r30 = 0 →
                      zCT zZC zmX3_leave [.ref 5, .int (126 : Int32)] s29 (zQv (fun s32 =>
                        zQv K none s32)) QX)))) QX := by
  have k0 : tzR s27 s27 := ⟨tzK.rf, hv⟩
  refine zf_X7_leavesLong k0.2 (fun r30 s29 b2 k10 => ?_)
  have k1 := k0.trans k10
  refine ⟨fun c3 => ?_, fun c3 => ?_⟩
  · refine zf_X3_leave k1.2 (fun s31 k40 => ?_)
    have k4 := k1.trans k40
    exact h _ k4
  · refine zf_X3_leave k1.2 (fun s32 k50 => ?_)
    have k5 := k1.trans k50
    exact h _ k5
theorem zr_X7_followPlain_0_18 {r30 : Int32} {s29 : zS} {K : zS → Prop} {QX : zS → Prop} (hv : sV s29) (h : ∀ z, tzR s29 z → K z) : ((r30 = 0 →
                      zCT zZC zmX3_leave [.ref 5, .int (127 : Int32)] s29 (zQv (fun s31 =>
                        zQv K none s31)) QX) ∧ (¬ r30 = 0 →
                      zCT zZC zmX3_leave [.ref 5, .int (126 : Int32)] s29 (zQv (fun s32 =>
                        zQv K none s32)) QX)) := by
  have k0 : tzR s29 s29 := ⟨tzK.rf, hv⟩
  refine ⟨fun c1 => ?_, fun c1 => ?_⟩
  · refine zf_X3_leave k0.2 (fun s31 k20 => ?_)
    have k2 := k0.trans k20
    exact h _ k2
  · refine zf_X3_leave k0.2 (fun s32 k30 => ?_)
    have k3 := k0.trans k30
    exact h _ k3
theorem zr_X7_followPlain_0_19 {s31 : zS} {K : zS → Prop} (hv : sV s31) (h : ∀ z, tzR s31 z → K z) : zQv K none s31 := by
  have k0 : tzR s31 s31 := ⟨tzK.rf, hv⟩
  exact h _ k0
theorem zr_X7_followPlain_0_20 {s32 : zS} {K : zS → Prop} (hv : sV s32) (h : ∀ z, tzR s32 z → K z) : zQv K none s32 := by
  have k0 : tzR s32 s32 := ⟨tzK.rf, hv⟩
  exact h _ k0
theorem zr_X7_followLonger_14_0 {x1 : Int32} {x2 : Int64} {s1 : zS} {K : zS → Prop} {QX : zS → Prop} (hv : sV s1) (h : ∀ z, tzR s1 z → K z) : PX7_followLonger_38 (zQv K) QX x1 x2 s1 := by
  have k0 : tzR s1 s1 := ⟨tzK.rf, hv⟩
  exact zj_X7_followLonger_38 k0.2 (fun z q => h z (k0.trans q))
theorem zr_X7_followLonger_14_1 {x1 : Int32} {x2 : Int64} {s2 : zS} {K : zS → Prop} {QX : zS → Prop} (hv : sV s2) (h : ∀ z, tzR s2 z → K z) : PX7_followLonger_38 (zQv K) QX x1 x2 s2 := by
  have k0 : tzR s2 s2 := ⟨tzK.rf, hv⟩
  exact zj_X7_followLonger_38 k0.2 (fun z q => h z (k0.trans q))
theorem zr_X7_followLonger_52_0 {x1 : Int32} {s1 : zS} {K : zS → Prop} {QX : zS → Prop} (hv : sV s1) (h : ∀ z, tzR s1 z → K z) : PX7_followLonger_80 (zQv K) QX x1 s1 := by
  have k0 : tzR s1 s1 := ⟨tzK.rf, hv⟩
  exact zj_X7_followLonger_80 k0.2 (fun z q => h z (k0.trans q))
theorem zr_X7_followLonger_52_1 {x1 : Int32} {s2 : zS} {K : zS → Prop} {QX : zS → Prop} (hv : sV s2) (h : ∀ z, tzR s2 z → K z) : PX7_followLonger_80 (zQv K) QX x1 s2 := by
  have k0 : tzR s2 s2 := ⟨tzK.rf, hv⟩
  exact zj_X7_followLonger_80 k0.2 (fun z q => h z (k0.trans q))
theorem zr_X7_followLonger_101_0 {x1 : Int32} {s1 : zS} {K : zS → Prop} {QX : zS → Prop} (hv : sV s1) (h : ∀ z, tzR s1 z → K z) : PX7_followLonger_123 (zQv K) QX x1 s1 := by
  have k0 : tzR s1 s1 := ⟨tzK.rf, hv⟩
  exact zj_X7_followLonger_123 k0.2 (fun z q => h z (k0.trans q))
theorem zr_X7_followLonger_101_1 {x1 : Int32} {s2 : zS} {K : zS → Prop} {QX : zS → Prop} (hv : sV s2) (h : ∀ z, tzR s2 z → K z) : PX7_followLonger_123 (zQv K) QX x1 s2 := by
  have k0 : tzR s2 s2 := ⟨tzK.rf, hv⟩
  exact zj_X7_followLonger_123 k0.2 (fun z q => h z (k0.trans q))
theorem zr_X7_followLonger_137_0 {x1 : Int32} {s1 : zS} {K : zS → Prop} {QX : zS → Prop} (hv : sV s1) (h : ∀ z, tzR s1 z → K z) : PX7_followLonger_159 (zQv K) QX x1 s1 := by
  have k0 : tzR s1 s1 := ⟨tzK.rf, hv⟩
  exact zj_X7_followLonger_159 k0.2 (fun z q => h z (k0.trans q))
theorem zr_X7_followLonger_137_1 {x1 : Int32} {s2 : zS} {K : zS → Prop} {QX : zS → Prop} (hv : sV s2) (h : ∀ z, tzR s2 z → K z) : PX7_followLonger_159 (zQv K) QX x1 s2 := by
  have k0 : tzR s2 s2 := ⟨tzK.rf, hv⟩
  exact zj_X7_followLonger_159 k0.2 (fun z q => h z (k0.trans q))
theorem zr_X7_followLonger_159_0 {s1 : zS} {K : zS → Prop} {QX : zS → Prop} (hv : sV s1) (h : ∀ z, tzR s1 z → K z) : zCT zZC zmX3_take [.ref 5, .int (127 : Int32)] s1 (zQi (fun r4 s3 =>
          zCT zZC zmX3_take [.ref 5, .int (127 : Int32)] s3 (zQi (fun r6 s5 =>
            zQv K none s5)) QX)) QX := by
  have k0 : tzR s1 s1 := ⟨tzK.rf, hv⟩
  refine zf_X3_take k0.2 (fun r4 s3 k10 => ?_)
  have k1 := k0.trans k10
  refine zf_X3_take k1.2 (fun r6 s5 k20 => ?_)
  have k2 := k1.trans k20
  exact h _ k2
theorem zr_X7_followLonger_159_1 {s3 : zS} {K : zS → Prop} {QX : zS → Prop} (hv : sV s3) (h : ∀ z, tzR s3 z → K z) : zCT zZC zmX3_take [.ref 5, .int (127 : Int32)] s3 (zQi (fun r6 s5 =>
            zQv K none s5)) QX := by
  have k0 : tzR s3 s3 := ⟨tzK.rf, hv⟩
  refine zf_X3_take k0.2 (fun r6 s5 k10 => ?_)
  have k1 := k0.trans k10
  exact h _ k1
theorem zr_X7_followLonger_159_2 {s5 : zS} {K : zS → Prop} (hv : sV s5) (h : ∀ z, tzR s5 z → K z) : zQv K none s5 := by
  have k0 : tzR s5 s5 := ⟨tzK.rf, hv⟩
  exact h _ k0
