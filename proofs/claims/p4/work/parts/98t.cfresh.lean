/-! the class's other calls on a new object -/
theorem sc_failE {s : zS} {k w : Int32} {K : zS → Prop} {QX : zS → Prop} (h1 : s.1 1 4 = 1) (h : K s) : zCT zZC zmX4_fail [.ref 1, .int k, .int w] s (zQv K) QX := by
  refine rX4_fail ?_
  unfold PX4_fail_0
  rw [h1]
  exact ⟨fun z => absurd z (by decide), fun _ => h⟩
theorem sc_fitE {s : zS} {a : Int32} {K : zS → Prop} {QX : zS → Prop} (h1 : s.1 1 4 = 1) (h : K s) : zCT zZC zmX6_fit [.ref 3, .int a] s (zQv K) QX := by
  refine rX6_fit ?_
  unfold PX6_fit_0
  have v10 : vp_in (10 : Int32) 13 := vp_in_nI (n := 10) (by decide) (by decide)
  have v3 : vp_in (3 : Int32) 13 := vp_in_nI (n := 3) (by decide) (by decide)
  have v11 : vp_in (11 : Int32) 13 := vp_in_nI (n := 11) (by decide) (by decide)
  exact ⟨fun _ => ⟨v10, v3, fun _ => ⟨fun _ => ⟨fun _ => h, fun _ => ⟨v11, fun _ => h, fun _ => sc_failE h1 h⟩⟩, fun _ => h⟩, fun _ => sc_failE h1 ⟨fun _ => ⟨fun _ => h, fun _ => ⟨v11, fun _ => h, fun _ => sc_failE h1 h⟩⟩, fun _ => h⟩⟩, fun _ => ⟨fun _ => ⟨fun _ => h, fun _ => ⟨v11, fun _ => h, fun _ => sc_failE h1 h⟩⟩, fun _ => h⟩⟩
theorem sc_finishE {s : zS} {K : zS → Prop} {QX : zS → Prop} (h1 : s.1 1 4 = 1) (h : K s) : zCT zZC zmX6_finish [.ref 3] s (zQv K) QX := by
  refine rX6_finish ?_
  unfold PX6_finish_0
  exact sc_fitE h1 (sc_fitE h1 h)
/-- what clear leaves -/
def clK (σ s : zS) : Prop := (∀ c i, ¬ c = 2 → ¬ c = 17 → ¬ c = 18 → s.1 c i = σ.1 c i ∧ s.2 c i = σ.2 c i) ∧ (∀ i, i < 16 → s.1 17 i = -1) ∧ (∀ i, i < 13 → s.1 18 i = 0) ∧ (∀ i, 8 ≤ i → i ≤ 13 → s.1 2 i = 0) ∧ s.2 2 14 = -1
theorem sc_clear {σ : zS} {K : zS → Prop} {QX : zS → Prop} (h : ∀ s, clK σ s → K s) : zCT zZC zmX2_clear [.ref 2] σ (zQv K) QX := by
  refine rX2_clear (fun m x1 s => ∃ k, m + k = 30 ∧ k ≤ 16 ∧ x1 = nI k ∧ (∀ c i, ¬ c = 17 → s.1 c i = σ.1 c i ∧ s.2 c i = σ.2 c i) ∧ ∀ i, i < k → s.1 17 i = -1) (fun m x1 s => ∃ k, m + k = 13 ∧ x1 = nI k ∧ (∀ c i, ¬ c = 17 → ¬ c = 18 → s.1 c i = σ.1 c i ∧ s.2 c i = σ.2 c i) ∧ (∀ i, i < 16 → s.1 17 i = -1) ∧ ∀ i, i < k → s.1 18 i = 0) ?_ ?_ ?_
  · rintro m x1 s ⟨k, hm, hk, rfl, hf, h7⟩
    unfold PX2_clear_2
    have c1 : nI 16 ≤ nI k ↔ 16 ≤ k := nI_leI (by decide) (by omega)
    rw [c1]
    refine ⟨fun q => ⟨13, by show 13 < m; omega, 0, rfl, rfl, fun c i a _ => hf c i a, fun i hi => h7 i (by omega), fun i hi => absurd hi (Nat.not_lt_zero _)⟩, fun q => ⟨vp_in_nI (by omega) (by decide), fun s1 e1 => ⟨m - 1, by show m - 1 < m; omega, k + 1, by omega, by omega, nI_1 k, fun c i a => ?_, fun i hi => ?_⟩⟩⟩
    · rw [e1]; exact ⟨by rw [zI1, if_neg (by omega)]; exact (hf c i a).1, (hf c i a).2⟩
    · rw [nI_clamp (by omega)] at e1
      rw [e1, zI1]
      by_cases q2 : i = k
      · rw [if_pos ⟨rfl, q2⟩]
      · rw [if_neg (by omega)]; exact h7 i (by omega)
  · rintro m x1 s ⟨k, hm, rfl, hf, h7, h8⟩
    unfold PX2_clear_26
    have c1 : nI 13 ≤ nI k ↔ 13 ≤ k := nI_leI (by decide) (by omega)
    rw [c1]
    refine ⟨fun q s1 e1 s2 e2 s3 e3 s4 e4 s5 e5 s6 e6 s7 e7 => ?_, fun q => ⟨vp_in_nI (by omega) (by decide), fun s1 e1 => ⟨m - 1, by show m - 1 < m; omega, k + 1, by omega, nI_1 k, fun c i a a2 => ?_, fun i hi => ?_, fun i hi => ?_⟩⟩⟩
    · have g : ∀ c i, s7.1 c i = if c = 2 ∧ (8 ≤ i ∧ i ≤ 13) then 0 else s.1 c i := by
        intro c i
        rw [e7]
        show s6.1 c i = _
        rw [e6, zI1, e5, zI1, e4, zI1, e3, zI1, e2, zI1, e1, zI1]
        by_cases q1 : c = 2 ∧ (8 ≤ i ∧ i ≤ 13)
        · rw [if_pos q1]
          obtain ⟨rfl, q2, q3⟩ := q1
          have : i = 8 ∨ i = 9 ∨ i = 10 ∨ i = 11 ∨ i = 12 ∨ i = 13 := by omega
          rcases this with rfl | rfl | rfl | rfl | rfl | rfl <;> simp
        · rw [if_neg q1, if_neg (by omega), if_neg (by omega), if_neg (by omega), if_neg (by omega), if_neg (by omega), if_neg (by omega)]
      have g2 : ∀ c i, s7.2 c i = if c = 2 ∧ i = 14 then -1 else s.2 c i := by
        intro c i
        rw [e7, e6, e5, e4, e3, e2, e1]
        rfl
      refine h s7 ⟨fun c i a a2 a3 => ⟨by rw [g, if_neg (by omega)]; exact (hf c i a2 a3).1, by rw [g2, if_neg (by omega)]; exact (hf c i a2 a3).2⟩, fun i hi => by rw [g, if_neg (by omega)]; exact h7 i hi, fun i hi => by rw [g, if_neg (by omega)]; exact h8 i (by omega), fun i q1 q2 => by rw [g, if_pos ⟨rfl, q1, q2⟩], by rw [g2, if_pos ⟨rfl, rfl⟩]⟩
    · rw [e1]; exact ⟨by rw [zI1, if_neg (by omega)]; exact (hf c i a a2).1, (hf c i a a2).2⟩
    · rw [e1, zI1, if_neg (by omega)]; exact h7 i hi
    · rw [nI_clamp (by omega)] at e1
      rw [e1, zI1]
      by_cases q2 : i = k
      · rw [if_pos ⟨rfl, q2⟩]
      · rw [if_neg (by omega)]; exact h8 i (by omega)
  · unfold PX2_clear_0
    exact ⟨30, trivial, 0, rfl, by decide, rfl, fun c i _ => ⟨rfl, rfl⟩, fun i hi => absurd hi (Nat.not_lt_zero _)⟩
theorem sc_oW0 {s : zS} {b : Nat → Nat} {x : mE Nat} {h1 h2 : Int32} {K : zS → Prop} {QX : zS → Prop} (hs : cS s b 0 x) (hx : x.bind (mOct b 0) = .error (1, 0)) (h : ∀ s', cS s' b 0 (.error (1, 0)) → K s') : zCT zZC zmX4_octetWithin [.ref 1, .int h1, .int h2] s (zQi (fun _ s' => K s')) QX := by
  refine rX4_octetWithin ?_
  unfold PX4_octetWithin_0
  refine sc_octet hs (fun s1 k1 g1 => ?_)
  rw [hx] at g1 ⊢
  have g1 : cS s1 b 0 (.error (1, 0)) := g1
  have F : ∀ (w : Int32) (K2 : zS → Prop), (∀ s', cS s' b 0 (.error (1, 0)) → K2 s') → zCT zZC zmX4_fail [.ref 1, .int (1 : Int32), .int w] s1 (zQv K2) QX := fun w K2 hK => sc_fail (k := 1) (p := 0) g1 (by decide) (fun a ha => by cases ha) (fun s' _ hs' => hK s' hs')
  exact ⟨fun _ => F _ _ h, fun _ => ⟨fun _ => h _ g1, fun _ => F _ _ h⟩⟩
theorem sc_begin0 {σ : zS} {K : zS → Prop} {QX : zS → Prop} (h0 : σ.1 1 1 = 0) (hb : ∀ j, j < 16000 → σ.1 10 j = 0) (h : ∀ s, s.1 1 4 = 1 → K s) : zCT zZC zmX6_begin [.ref 3] σ (zQv K) QX := by
  have e0 : ∀ a, mOct (fun _ => 0) 0 a = .error (1, 0) := fun a => by unfold mOct; rw [if_neg (Nat.not_lt_zero _)]
  refine rX6_begin (fun m x1 s => ∃ k, m + k = 8 ∧ x1 = nI k ∧ cS s (fun _ => 0) 0 (if k = 0 then .ok 0 else .error (1, 0))) ?_ ?_
  · rintro m x1 s ⟨k, hm, rfl, hs⟩
    unfold PX6_begin_28
    have c1 : nI zt_HEADER_n ≤ nI k ↔ 8 ≤ k := nI_leI (by decide) (by omega)
    rw [c1]
    refine ⟨fun q => ?_, fun q => ⟨vp_in_nI (show k < 8 by omega) (by decide), vp_in_nI (show k < 8 by omega) (by decide), ?_⟩⟩
    · rw [if_neg (by omega)] at hs
      exact h s hs.2.2.1
    · refine sc_oW0 hs ?_ (fun s' hs' => ⟨m - 1, by show m - 1 < m; omega, k + 1, by omega, nI_1 k, by rw [if_neg (by omega)]; exact hs'⟩)
      by_cases q2 : k = 0
      · rw [if_pos q2]; exact e0 0
      · rw [if_neg q2]; rfl
  · unfold PX6_begin_0
    refine rX4_restart ?_
    unfold PX4_restart_0
    intro s1 e1 s2 e2 s3 e3 s4 e4
    refine sc_clear (fun s5 h5 => ?_)
    refine rX1_begin ?_
    unfold PX1_begin_0
    intro s6 e6
    refine ⟨Or.inr rfl, fun s7 e7 s8 e8 => ?_⟩
    have g : ∀ c i, c = 1 ∨ c = 10 → s8.1 c i = s4.1 c i := fun c i hc => by
      rw [e8, zI1, if_neg (by omega), e7, zI1, if_neg (by omega), e6, zI1, if_neg (by omega)]
      exact (h5.1 c i (by omega) (by omega) (by omega)).1
    have n1 : s1.1 1 1 = 0 := by rw [e1, zI1, if_neg (by omega)]; exact h0
    rw [n1] at e2
    refine ⟨8, trivial, 0, rfl, rfl, ?_⟩
    rw [if_pos rfl]
    refine ⟨fun j hj => ⟨by show (0 : Nat) < 256; decide, ?_⟩, Nat.zero_le _, ?_, ?_, ?_, Nat.le_refl _⟩
    · rw [g 10 j (Or.inr rfl), e4, zI1, if_neg (by omega), e3, zI1, if_neg (by omega), e2, zI1, if_neg (by omega), e1, zI1, if_neg (by omega), hb j hj]
      show (0 : Int32) = sb_b 0
      decide
    · rw [g 1 4 (Or.inl rfl), e4, zI1, if_neg (by omega), e3, zI1, if_pos ⟨rfl, rfl⟩]
    · rw [g 1 2 (Or.inl rfl), e4, zI1, if_neg (by omega), e3, zI1, if_neg (by omega), e2, zI1, if_neg (by omega), e1, zI1, if_pos ⟨rfl, rfl⟩]
      rfl
    · rw [g 1 3 (Or.inl rfl), e4, zI1, if_neg (by omega), e3, zI1, if_neg (by omega), e2, zI1, if_pos ⟨rfl, rfl⟩]
      rfl
theorem sc_check0 {σ : zS} {K : Int32 → zS → Prop} {QX : zS → Prop} (h0 : σ.1 1 1 = 0) (hb : ∀ j, j < 16000 → σ.1 10 j = 0) (h : ∀ s, K 1 s) : zCT zZC zmX8_check [.ref 0] σ (zQi K) QX := by
  refine rX8_check (fun _ x1 s => x1 = 0 ∧ s.1 1 4 = 1) ?_ ?_
  · rintro m x1 s ⟨rfl, h4⟩
    unfold PX8_check_9
    refine ⟨fun q => absurd q (by decide), fun _ => ?_⟩
    refine rX6_areMore ?_
    unfold PX6_areMore_0
    rw [h4]
    refine ⟨fun z => absurd z (by decide), fun _ => ⟨Or.inl rfl, fun _ => ?_, fun z => absurd rfl z⟩⟩
    unfold PX8_check_39
    refine sc_finishE h4 (fun s2 e2 s3 e3 => ?_)
    have n4 : s2.1 1 4 = 1 := by rw [e2, zI1, if_neg (by omega)]; exact h4
    rw [n4]
    refine ⟨fun z => absurd z (by decide), fun _ => ?_⟩
    unfold PX8_check_101
    exact ⟨fun z => absurd z (by decide), fun _ => h s3⟩
  · unfold PX8_check_0
    exact sc_begin0 h0 hb (fun s h4 => ⟨0, trivial, rfl, h4⟩)
theorem sc_place {σ : zS} {K : Int32 → zS → Prop} {QX : zS → Prop} (h : K (σ.1 0 6) σ) : zCT zZC zmX8_place [.ref 0] σ (zQi K) QX := rX8_place h
theorem sc_has0 {σ : zS} {a : Int32} {K : Int32 → zS → Prop} {QX : zS → Prop} (h6 : σ.1 9 6 = 0) (h : K 0 σ) : zCT zZC zmX0_has [.ref 9, .int a] σ (zQi K) QX := by
  refine rX0_has ?_
  unfold PX0_has_0
  rw [h6]
  refine ⟨fun _ => ⟨Or.inl rfl, h⟩, fun q => ⟨fun _ => ⟨Or.inl rfl, h⟩, fun q2 => ?_⟩⟩
  exact absurd (Int32.not_lt.1 q) q2
theorem sc_count0 {σ : zS} {a : Int32} {K : Int32 → zS → Prop} {QX : zS → Prop} (h7 : σ.1 9 7 = 0) (h : K (-1) σ) : zCT zZC zmX8_count [.ref 0, .int a] σ (zQi K) QX := by
  refine rX8_count ?_
  unfold PX8_count_0
  refine rX0_countOf ?_
  unfold PX0_countOf_0
  rw [h7]
  exact ⟨fun _ => h, fun z => absurd rfl z⟩
theorem sc_instr0 {σ : zS} {a : Int32} {K : Int32 → zS → Prop} {QX : zS → Prop} (h6 : σ.1 9 6 = 0) (h : K (-1) σ) : zCT zZC zmX8_instructions [.ref 0, .int a] σ (zQi K) QX :=
  rX8_instructions (sc_has0 h6 ⟨fun _ => h, fun z => absurd rfl z⟩)
theorem sc_locals0 {σ : zS} {a : Int32} {K : Int32 → zS → Prop} {QX : zS → Prop} (h6 : σ.1 9 6 = 0) (h : K (-1) σ) : zCT zZC zmX8_locals [.ref 0, .int a] σ (zQi K) QX :=
  rX8_locals (sc_has0 h6 ⟨fun _ => h, fun z => absurd rfl z⟩)
theorem sc_code0 {σ : zS} {a i : Int32} {K : Int32 → zS → Prop} {QX : zS → Prop} (h6 : σ.1 9 6 = 0) (h : K (-1) σ) : zCT zZC zmX8_code [.ref 0, .int a, .int i] σ (zQi K) QX :=
  rX8_code (sc_has0 h6 ⟨fun _ => h, fun z => absurd rfl z⟩)
