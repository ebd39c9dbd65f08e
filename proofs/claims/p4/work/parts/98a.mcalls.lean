/-- what the calls answer, and what the object holds behind them -/
def qFeed (S : qS) (a b c d e : Int32) : Int32 × qS := if S.1.length + 20 ≤ 16000 ∧ S.2.1 + 20 ≤ 65536 then (nI (S.1.length + 20), (S.1 ++ fBy a b c d e, S.2.1 + 20, S.2.2.1, S.2.2.2)) else (-1, S)
def qEnd (S : qS) (n : Int32) : Int32 × qS := if n < 0 ∨ ¬ n ≤ nI S.1.length then (0, S) else (1, (S.1.take n.toNatClampNeg, S.2.1, S.2.2.1, S.2.2.2))
def qCount (S : qS) (w : Int32) : Int32 := match S.2.2.2 with
  | none => -1
  | some A => if w = 1 then nI (aS A).length else if w = 2 then nI (aI A).length else if w = 3 then nI (aF A).length else if w = 4 then nI (aT A).length else if w = 5 then nI (aM A).length else if w = 6 then nI (aG A).length else if w = 7 then nI (aX A).length else if w = 9 then nI (aE A).length else if w = 11 then nI (aZ A).length else -1
/-- the own function f: its signature, its body -/
def qOwn (S : qS) (f : Int32) : Option (mSigT × mBdT) := match S.2.2.2 with
  | none => none
  | some A => if f < 0 ∨ nI (aF A).length ≤ f then none else some ((aS A).getD ((aF A).getD f.toNatClampNeg (0, 0)).2 ([], 0), (aD A).getD f.toNatClampNeg bd0)
def qInstr (S : qS) (f : Int32) : Int32 := match qOwn S f with
  | none => -1
  | some x => nI x.2.2.2.2.2.length
def ins0 : Nat × mInsT := (0, 0, 0, [])
def qCode (S : qS) (f i : Int32) : Int32 := match qOwn S f with
  | none => -1
  | some x => if i < 0 ∨ nI x.2.2.2.2.2.length ≤ i then -1 else nI (x.2.2.2.2.2.getD i.toNatClampNeg ins0).2.1
def qLocals (S : qS) (f : Int32) : Int32 := match qOwn S f with
  | none => -1
  | some x => nI (bdL x.1 x.2).length
/-! what the reference's state holds between two calls -/
def mRepX (s : zS) (B : Nat) (A : mA) : Prop := r1 s (aS A) ∧ r2 s B (aI A) ∧ r3 s B (aF A) ∧ r45 0 s B (aT A) ∧ r45 1 s B (aM A) ∧ r6 s B (aG A) ∧ r7 s B (aX A) ∧ r9 s B (aE A) ∧ r10 s B (aD A) ∧ r11 s B (aZ A)
def mRgt (σ : zS) (B : Nat) (A : mA) : Prop := mRepX (zSsw σ) B A ∧ B ≤ 16000 ∧ ∃ b E, E ≤ 16000 ∧ (∀ j, j < 16000 → b j < 256 ∧ σ.1 4 (B + j) = sb_b (b j)) ∧ mFrom b E A ∧ (aD A).length = (aF A).length ∧ nG A
def zInv (σ : zS) (S : qS) : Prop := ∃ Bn Br, ((Bn = 0 ∧ Br = 16000) ∨ (Bn = 16000 ∧ Br = 0)) ∧ σ.1 1 0 = nI Bn ∧ σ.1 2 0 = nI Br ∧ tray σ S.1 ∧ (∀ x ∈ S.1, x < 256) ∧ σ.1 0 6 = nI S.2.1 ∧ S.2.1 ≤ 65536 ∧ σ.1 0 7 = S.2.2.1 ∧ (∃ V : Nat → Nat, ∀ j, j < 32000 → V j < 256 ∧ σ.1 4 j = sb_b (V j)) ∧ (match S.2.2.2 with
  | none => σ.1 0 2 = 0
  | some A => σ.1 0 2 = 1 ∧ mRgt σ Br A)
theorem zown_x {c i k : Nat} (h : zown c i = k) (hk : ¬ k = 0 ∧ ¬ k = 10 ∧ ¬ k = 12 ∧ ¬ k = 99) : c = 1 ∨ (14 ≤ c ∧ c ≤ 56) := by
  by_cases q : c = 1 ∨ (14 ≤ c ∧ c ≤ 56)
  · exact q
  · exfalso
    unfold zown at h
    by_cases q0 : c = 0
    · rw [if_pos q0] at h
      by_cases q1 : 10 ≤ i ∧ i ≤ 17
      · rw [if_pos q1] at h; omega
      · rw [if_neg q1] at h
        by_cases q2 : i = 18 ∨ i = 19
        · rw [if_pos q2] at h; omega
        · rw [if_neg q2] at h; omega
    · rw [if_neg q0, if_neg (by omega), if_neg (by omega), if_neg (by omega), if_neg (by omega), if_neg (by omega), if_neg (by omega), if_neg (by omega), if_neg (by omega)] at h
      by_cases q1 : 52 ≤ c ∧ c ≤ 54 ∨ c = 6
      · rw [if_pos q1] at h; omega
      · rw [if_neg q1, if_neg (by omega)] at h; omega
/-- the latest module's places and the store are as they were -/
def rgK (σ s : zS) : Prop := ∀ c i, (c = 2 ∨ (57 ≤ c ∧ c ≤ 99) ∨ c = 4) → s.1 c i = σ.1 c i ∧ s.2 c i = σ.2 c i
theorem rgK.sw {σ s : zS} (h : rgK σ s) {c i : Nat} (hc : c = 1 ∨ (14 ≤ c ∧ c ≤ 56)) : (zSsw s).1 c i = (zSsw σ).1 c i ∧ (zSsw s).2 c i = (zSsw σ).2 c i := by
  have hz : zrl c = 2 ∨ (57 ≤ zrl c ∧ zrl c ≤ 99) ∨ zrl c = 4 := by
    rcases hc with rfl | hc
    · exact Or.inl rfl
    · refine Or.inr (Or.inl ?_)
      unfold zrl
      rw [if_neg (by omega), if_neg (by omega), if_pos hc]
      omega
  exact h (zrl c) i hz
theorem rgK.q {σ s : zS} (h : rgK σ s) {k : Nat} (hk : ¬ k = 0 ∧ ¬ k = 10 ∧ ¬ k = 12 ∧ ¬ k = 99) : mQ k (zSsw σ) (zSsw s) := fun _ _ e => h.sw (zown_x e hk)
theorem mRepX_K {σ s : zS} {B : Nat} {A : mA} (h : mRepX (zSsw σ) B A) (k : rgK σ s) : mRepX (zSsw s) B A := by
  obtain ⟨a1, a2, a3, a4, a5, a6, a7, a9, a10, a11⟩ := h
  refine ⟨r1_q a1 (k.q (by decide)), r2_q a2 (k.q (by decide)), r3_q a3 (k.q (by decide)), r4_q a4 (k.q (by decide)), r5_q a5 (k.q (by decide)), r6_q a6 (k.q (by decide)), r7_q a7 (k.q (by decide)), r9_q a9 (k.q (by decide)), ?_, r11_q a11 (k.q (by decide))⟩
  refine ⟨by rw [(k.sw (Or.inl rfl)).1]; exact a10.1, a10.2.1, fun i x hi hx => ?_⟩
  rw [(k.sw (c := 52) (Or.inr (by omega))).1, (k.sw (c := 53) (Or.inr (by omega))).1, (k.sw (c := 54) (Or.inr (by omega))).1]
  exact a10.2.2 i x hi hx
theorem mRgt_K {σ s : zS} {B : Nat} {A : mA} (h : mRgt σ B A) (k : rgK σ s) : mRgt s B A := by
  obtain ⟨h1, h2, b, E, h3, h4, h5⟩ := h
  exact ⟨mRepX_K h1 k, h2, b, E, h3, fun j hj => ⟨(h4 j hj).1, by rw [(k 4 _ (Or.inr (Or.inr rfl))).1]; exact (h4 j hj).2⟩, h5⟩
theorem rgK.of {σ s : zS} (h : mKeep σ s) : rgK σ s := fun c i hc => h c i (by unfold kpd; omega)
theorem zInv_K {σ s : zS} {S : qS} (h : zInv σ S) (k : mKeep σ s) : zInv s S := by
  obtain ⟨Bn, Br, hB, b1, b2, ht, hb, h6, hf, h7, ⟨V, hV⟩, hR⟩ := h
  refine ⟨Bn, Br, hB, by rw [(k 1 0 (by unfold kpd; omega)).1]; exact b1, by rw [(k 2 0 (by unfold kpd; omega)).1]; exact b2, ⟨by rw [(k 0 5 (by unfold kpd; omega)).1]; exact ht.1, ht.2.1, fun j hj => by rw [(k 5 j (by unfold kpd; omega)).1]; exact ht.2.2 j hj⟩, hb, by rw [(k 0 6 (by unfold kpd; omega)).1]; exact h6, hf, by rw [(k 0 7 (by unfold kpd; omega)).1]; exact h7, ⟨V, fun j hj => by rw [(k 4 j (by unfold kpd; omega)).1]; exact hV j hj⟩, ?_⟩
  have e2 := (k 0 2 (by unfold kpd; omega)).1
  cases hq : S.2.2.2 with
  | none => rw [hq] at hR; show s.1 0 2 = 0; rw [e2]; exact hR
  | some A => rw [hq] at hR; exact ⟨by rw [e2]; exact hR.1, mRgt_K hR.2 (rgK.of k)⟩
theorem sp_feed {σ : zS} {S : qS} {a b c d e : Int32} {K : Int32 → zS → Prop} {QX : zS → Prop} (hI : zInv σ S) (h : ∀ s, zInv s (qFeed S a b c d e).2 → K (qFeed S a b c d e).1 s) : zCT zZM zmX10_feed [.ref 0, .int a, .int b, .int c, .int d, .int e] σ (zQi K) QX := by
  refine rX10_feed ?_
  unfold PX10_feed_0
  obtain ⟨Bn, Br, hB, b1, b2, ht, hb, h6, hf, h7, ⟨V, hV⟩, hR⟩ := id hI
  have hlt := ht.2.1
  have e5 : nI S.1.length + (20 : Int32) = nI (S.1.length + 20) := nI_add _ 20
  have e6 : nI S.2.1 + (20 : Int32) = nI (S.2.1 + 20) := nI_add _ 20
  have c1 : (16000 : Int32) < nI (S.1.length + 20) ↔ 16000 < S.1.length + 20 := nI_ltI (a := 16000) (by decide) (by omega)
  have c2 : nI (S.2.1 + 20) ≤ (65536 : Int32) ↔ S.2.1 + 20 ≤ 65536 := nI_leI (b := 65536) (by omega) (by decide)
  unfold qFeed at h
  rw [ht.1, h6, e5, e6, c1, c2]
  refine ⟨fun q => ?_, fun q => ⟨fun q2 => ?_, fun q2 => ?_⟩⟩
  · rw [if_neg (by omega)] at h; exact h σ hI
  · rw [if_pos ⟨by omega, q2⟩] at h
    have w4 : ∀ w, (wBy w).length = 4 := fun _ => rfl
    refine sp_word ht (by omega) (fun s1 t1 k1 => ?_)
    refine sp_word t1 (by rw [List.length_append, w4]; omega) (fun s2 t2 k2 => ?_)
    refine sp_word t2 (by simp only [List.length_append, w4]; omega) (fun s3 t3 k3 => ?_)
    refine sp_word t3 (by simp only [List.length_append, w4]; omega) (fun s4 t4 k4 => ?_)
    refine sp_word t4 (by simp only [List.length_append, w4]; omega) (fun s5 t5 k5 => ?_)
    intro s6 e6'
    have kk := (((k1.trans k2).trans k3).trans k4).trans k5
    have hT : S.1 ++ wBy a ++ wBy b ++ wBy c ++ wBy d ++ wBy e = S.1 ++ fBy a b c d e := by unfold fBy; simp only [List.append_assoc]
    rw [hT] at t5
    have hl5 : (S.1 ++ fBy a b c d e).length = S.1.length + 20 := by rw [List.length_append]; rfl
    have n6 : s5.1 0 6 = nI S.2.1 := by rw [(kk 0 6 (by omega) (by omega)).1]; exact h6
    rw [n6, e6] at e6'
    have g5 : s6.1 0 5 = nI (S.1.length + 20) := by rw [e6', zI1, if_neg (by omega), t5.1, hl5]
    rw [g5]
    have rg : rgK σ s6 := fun c' i hc => by
      rw [e6']
      exact ⟨by rw [zI1, if_neg (by omega)]; exact (kk c' i (by omega) (by omega)).1, (kk c' i (by omega) (by omega)).2⟩
    refine h s6 ⟨Bn, Br, hB, ?_, ?_, ⟨?_, t5.2.1, fun j hj => ?_⟩, fun x hx => ?_, ?_, q2, ?_, ⟨V, fun j hj => ⟨(hV j hj).1, by rw [(rg 4 j (by omega)).1]; exact (hV j hj).2⟩⟩, ?_⟩
    · rw [e6', zI1, if_neg (by omega), (kk 1 0 (by omega) (by omega)).1]; exact b1
    · rw [e6', zI1, if_neg (by omega), (kk 2 0 (by omega) (by omega)).1]; exact b2
    · rw [e6', zI1, if_neg (by omega)]; exact t5.1
    · rw [e6', zI1, if_neg (by omega)]; exact t5.2.2 j hj
    · rcases List.mem_append.1 hx with hx | hx
      · exact hb x hx
      · unfold fBy at hx
        simp only [List.mem_append] at hx
        rcases hx with (((hx | hx) | hx) | hx) | hx <;> exact wBy_lt _ x hx
    · rw [e6', zI1, if_pos ⟨rfl, rfl⟩]
    · rw [e6', zI1, if_neg (by omega), (kk 0 7 (by omega) (by omega)).1]; exact h7
    · have g2 : s6.1 0 2 = σ.1 0 2 := by rw [e6', zI1, if_neg (by omega), (kk 0 2 (by omega) (by omega)).1]
      cases hq : S.2.2.2 with
      | none => rw [hq] at hR; show s6.1 0 2 = 0; rw [g2]; exact hR
      | some A => rw [hq] at hR; exact ⟨by rw [g2]; exact hR.1, mRgt_K hR.2 rg⟩
  · rw [if_neg (by omega)] at h; exact h σ hI
