/-! check: the end -/
theorem cl_n {n : Nat} (h : n ≤ 16000) : (if (0 : Int32) < (if (nI 16000) < nI n then (nI 16000) else nI n) then (if (nI 16000) < nI n then (nI 16000) else nI n) else (0 : Int32)) = nI n := by
  have c : ¬ nI 16000 < nI n := fun z => by have := (nI_ltI (a := 16000) (b := n) (by decide) (by omega)).1 z; omega
  rw [if_neg c]
  by_cases q : (0 : Int32) < nI n
  · rw [if_pos q]
  · rw [if_neg q]
    have : ¬ 0 < n := fun z => q ((nI_ltI (a := 0) (b := n) (by decide) (by omega)).2 z)
    rw [show n = 0 by omega]; rfl
theorem zC_at {σ : zS} {a b n i : Nat} (hi : i < n) : (zsC σ a b n).1 b i = σ.1 a i := if_pos ⟨rfl, hi⟩
theorem rd_copy {s : zS} {A : mA} {K : zS → Prop} {QX : zS → Prop} (h32 : ∀ i, fits .short (.int (s.1 32 i)) = true) (hC : cdR s (allC (aD A))) (hcnt : ∀ w, w < 13 → s.1 28 w = kcnt A w) (h86 : s.1 8 6 = nI (aF A).length) (hr : ∀ j x, (aD A)[j]? = some x → s.1 29 j = nI (allC ((aD A).take j)).length ∧ s.1 30 j = nI (cds x.2.2.2.2).length ∧ s.1 31 j = nI (bdL (ownS A j) x).length) (hF : (aF A).length ≤ 64) (hD : (aD A).length = (aF A).length)
    (h : ∀ s', (∀ c i, ¬ c = 9 → ¬ (33 ≤ c ∧ c ≤ 37) → s'.1 c i = s.1 c i) → kR s' (some A) → K s') : zCT zZC zmX0_copy [.ref 9, .ref 8] s (zQv K) QX := by
  obtain ⟨d1, d2, d3⟩ := hC
  refine rX0_copy ?_
  unfold PX0_copy_0
  refine ⟨rfl, rfl, by decide, by decide, by decide, fun _ _ => rfl, fun s1 e1 => ⟨rfl, rfl, by decide, by decide, by decide, fun _ _ => rfl, fun s2 e2 => ⟨rfl, rfl, by decide, by decide, by decide, fun _ _ => rfl, fun s3 e3 => ⟨rfl, rfl, by decide, by decide, by decide, fun _ _ => rfl, fun s4 e4 s5 e5 => ?_⟩⟩⟩⟩
  have g4 : ∀ c i, ¬ (33 ≤ c ∧ c ≤ 37) → s4.1 c i = s.1 c i := fun c i hc => by
    rw [e4, zC1 (by omega), e3, zC1 (by omega), e2, zC1 (by omega), e1, zC1 (by omega)]
  have n85 : s4.1 8 5 = nI (allC (aD A)).length := by rw [g4 8 5 (by omega)]; exact d1
  rw [n85, cl_n d2] at e5
  have g5 : ∀ c i, ¬ c = 9 → s5.1 c i = s4.1 c i := fun c i hc => by rw [e5, zI1, if_neg (by omega)]
  have m9 : s5.1 9 5 = nI (allC (aD A)).length := by rw [e5, zI1, if_pos ⟨rfl, rfl⟩]
  rw [m9, nI_clamp (by omega)]
  refine ⟨rfl, rfl, nI_pos (by omega), d2, d2, fun i _ => by rw [g5 32 i (by decide), g4 32 i (by omega)]; exact h32 i, fun s6 e6 s7 e7 => ⟨Or.inr rfl, fun s8 e8 => ?_⟩⟩
  have g8 : ∀ c i, ¬ c = 9 → ¬ c = 37 → s8.1 c i = s4.1 c i := fun c i a1 a2 => by
    rw [e8, zI1, if_neg (by omega), e7, zI1, if_neg (by omega), e6, zC1 a2]; exact g5 c i a1
  refine h s8 (fun c i a1 a2 => by rw [g8 c i a1 (by omega), g4 c i a2]) ⟨?_, ?_, hF, hD, fun w hw => ?_, fun j x hx => ⟨?_, ?_, ?_⟩, d2, fun i x hx => ?_⟩
  · rw [e8, zI1, if_pos ⟨rfl, rfl⟩]
  · rw [e8, zI1, if_neg (by omega), e7, zI1, if_pos ⟨rfl, rfl⟩, e6, zC1 (by decide), g5 8 6 (by decide), g4 8 6 (by omega)]; exact h86
  · rw [g8 33 w (by decide) (by decide), e4, zC1 (by decide), e3, zC1 (by decide), e2, zC1 (by decide), e1, zC_at (by show w < 13; exact hw)]
    exact hcnt w hw
  · have hj : j < 64 := by have := get_len hx; omega
    rw [g8 34 j (by decide) (by decide), e4, zC1 (by decide), e3, zC1 (by decide), e2, zC_at (by show j < 64; exact hj), e1, zC1 (by decide)]
    exact (hr j x hx).1
  · have hj : j < 64 := by have := get_len hx; omega
    rw [g8 35 j (by decide) (by decide), e4, zC1 (by decide), e3, zC_at (by show j < 64; exact hj), e2, zC1 (by decide), e1, zC1 (by decide)]
    exact (hr j x hx).2.1
  · have hj : j < 64 := by have := get_len hx; omega
    rw [g8 36 j (by decide) (by decide), e4, zC_at (by show j < 64; exact hj), e3, zC1 (by decide), e2, zC1 (by decide), e1, zC1 (by decide)]
    exact (hr j x hx).2.2
  · rw [e8, zI1, if_neg (by omega), e7, zI1, if_neg (by omega), e6, zC_at (get_len hx), g5 32 i (by decide), g4 32 i (by omega)]
    exact d3 i x hx
/-- what stands of the state s in s3, behind check's last steps -/
def ckF (s s3 : zS) : Prop := s3.1 1 1 = 0 ∧ ∀ c i, ¬ (c = 1 ∧ i = 1) → ¬ (c = 0 ∧ i = 6) → s3.1 c i = s.1 c i
def ckG (s s3 : zS) : Prop := s3.1 1 1 = 0 ∧ ∀ c i, ¬ (c = 1 ∧ i = 1) → ¬ (c = 0 ∧ i = 6) → ¬ c = 28 → ¬ (c = 8 ∧ i = 6) → ¬ c = 9 → ¬ (33 ≤ c ∧ c ≤ 37) → s3.1 c i = s.1 c i
theorem ck_bad {K9 : Int32 → zS → Prop} {s : zS} {kk p : Nat} {K : Int32 → zS → Prop} {QX : zS → Prop} (her : cEq s kk p) (h : ∀ s3, ckF s s3 → K (nI kk) s3) : ∀ s2 : zS, s2 = zsI s 1 1 (0 : Int32) →
    ∀ s3 : zS, s3 = zsI s2 0 6 (s2.1 1 5) →
    (((s2.1 1 4) = 0 →
      zCT zZC zmX2_firstWrong [.ref 2] s3 (zQi (fun r5 s4 =>
        ∀ s6 : zS, s6 = zsI s4 0 6 r5 →
        ((0 ≤ (s6.1 0 6) →
          PX8_check_101 K9 (zQi K) QX (2 : Int32) s6) ∧ (¬ 0 ≤ (s6.1 0 6) →
          PX8_check_101 K9 (zQi K) QX (0 : Int32) s6)))) QX) ∧ (¬ (s2.1 1 4) = 0 →
      PX8_check_101 K9 (zQi K) QX (s2.1 1 4) s3)) := by
  intro s2 e2 s3 e3
  have m4 : s2.1 1 4 = s.1 1 4 := by rw [e2, zI1, if_neg (by omega)]
  rw [m4]
  refine ⟨fun z => absurd z her.bad, fun z => ?_⟩
  unfold PX8_check_101
  refine ⟨fun w => absurd w z, fun _ => ?_⟩
  rw [her.1]
  refine h s3 ⟨by rw [e3, zI1, if_neg (by omega), e2, zI1, if_pos ⟨rfl, rfl⟩], fun c i a1 a2 => by rw [e3, zI1, if_neg (by omega), e2, zI1, if_neg (by omega)]⟩
theorem ck_good {K9 : Int32 → zS → Prop} {s : zS} {b : Nat → Nat} {E n : Nat} {A : mA} {K : Int32 → zS → Prop} {QX : zS → Prop} (hs : cSt s b E E) (hM : MD s b E A n) (hD : (aD A).length = (aF A).length) (hG : ¬ wr s → nG A) (hbad : wr s → ∀ s3, ckF s s3 → K 2 s3) (hok : ¬ wr s → ∀ s3, ckG s s3 → kR s3 (some A) → K 0 s3) : ∀ s2 : zS, s2 = zsI s 1 1 (0 : Int32) →
    ∀ s3 : zS, s3 = zsI s2 0 6 (s2.1 1 5) →
    (((s2.1 1 4) = 0 →
      zCT zZC zmX2_firstWrong [.ref 2] s3 (zQi (fun r5 s4 =>
        ∀ s6 : zS, s6 = zsI s4 0 6 r5 →
        ((0 ≤ (s6.1 0 6) →
          PX8_check_101 K9 (zQi K) QX (2 : Int32) s6) ∧ (¬ 0 ≤ (s6.1 0 6) →
          PX8_check_101 K9 (zQi K) QX (0 : Int32) s6)))) QX) ∧ (¬ (s2.1 1 4) = 0 →
      PX8_check_101 K9 (zQi K) QX (s2.1 1 4) s3)) := by
  intro s2 e2 s3 e3
  have m4 : s2.1 1 4 = 0 := by rw [e2, zI1, if_neg (by omega)]; exact hs.2.2.1
  refine ⟨fun _ => ?_, fun z => absurd m4 z⟩
  have g3 : ∀ c i, ¬ (c = 1 ∧ i = 1) → ¬ (c = 0 ∧ i = 6) → s3.1 c i = s.1 c i := fun c i a1 a2 => by rw [e3, zI1, if_neg (by omega), e2, zI1, if_neg (by omega)]
  have n11 : s3.1 1 1 = 0 := by rw [e3, zI1, if_neg (by omega), e2, zI1, if_pos ⟨rfl, rfl⟩]
  have w3 : wr s3 ↔ wr s := by
    constructor
    · rintro ⟨k, a1, a2⟩; exact ⟨k, a1, by rw [← g3 17 k (by omega) (by omega)]; exact a2⟩
    · rintro ⟨k, a1, a2⟩; exact ⟨k, a1, by rw [g3 17 k (by omega) (by omega)]; exact a2⟩
  refine rd_firstWr (fun r hr1 hr2 s6 e6 => ?_)
  have n06 : s6.1 0 6 = r := by rw [e6, zI1, if_pos ⟨rfl, rfl⟩]
  have g6 : ∀ c i, ¬ (c = 1 ∧ i = 1) → ¬ (c = 0 ∧ i = 6) → s6.1 c i = s.1 c i := fun c i a1 a2 => by rw [e6, zI1, if_neg (by omega)]; exact g3 c i a1 a2
  have m11 : s6.1 1 1 = 0 := by rw [e6, zI1, if_neg (by omega)]; exact n11
  rw [n06]
  by_cases hw : wr s
  · refine ⟨fun _ => ?_, fun z => absurd (hr1 (w3.2 hw)) z⟩
    unfold PX8_check_101
    exact ⟨fun z => absurd z (by decide), fun _ => hbad hw s6 ⟨m11, g6⟩⟩
  · refine ⟨fun z => ?_, fun _ => ?_⟩
    · rw [hr2 (fun z => hw (w3.1 z))] at z
      exact absurd z (by decide)
    · obtain ⟨r1, r2, r3, r4, r5, r6, r7, r8, r9, r10, r11⟩ := hM
      unfold PX8_check_101
      refine ⟨fun _ => ?_, fun z => absurd rfl z⟩
      have i6 : itM s6 A := fun k a1 a2 => by rw [g6 18 k (by omega) (by omega)]; exact r7 k a1 a2
      refine rd_fillCounts i6 (fun s7 g7 k7 h86 => ?_)
      have gg : ∀ c i, ¬ (c = 1 ∧ i = 1) → ¬ (c = 0 ∧ i = 6) → ¬ c = 28 → ¬ (c = 8 ∧ i = 6) → s7.1 c i = s.1 c i := fun c i a1 a2 a3 a4 => by rw [g7 c i a3 a4]; exact g6 c i a1 a2
      obtain ⟨c1, c2⟩ := r4
      have hnG := hG hw
      refine rd_copy (A := A) (fun i => by rw [gg 32 i (by omega) (by omega) (by omega) (by omega)]; exact hs.v.2.2.2.2.2.2.2 i) ⟨by rw [gg 8 5 (by omega) (by omega) (by omega) (by omega)]; exact c1.1, c1.2.1, fun i x hx => by rw [gg 32 i (by omega) (by omega) (by omega) (by omega)]; exact c1.2.2 i x hx⟩ k7 h86 (fun j x hx => ?_) r10.2.2.1 hD (fun s8 g8 hk => ?_)
      · have hj := get_len hx
        have h64 := r10.2.2.1
        rw [gg 29 j (by omega) (by omega) (by omega) (by omega), gg 30 j (by omega) (by omega) (by omega) (by omega), gg 31 j (by omega) (by omega) (by omega) (by omega)]
        have := c2 j x hx (by omega)
        have hg : bdG (eA A) (bNo A j) = ownS A j := by unfold bdG; rw [bd_sig hnG (by omega)]; rfl
        rw [hg] at this
        exact this
      · refine hok hw s8 ⟨by rw [g8 1 1 (by decide) (by omega), g7 1 1 (by decide) (by omega)]; exact m11, fun c i a1 a2 a3 a4 a5 a6 => by rw [g8 c i a5 a6]; exact gg c i a1 a2 a3 a4⟩ hk
