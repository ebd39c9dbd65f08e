/-! end, place, count, and what is told of the latest module's functions -/
theorem sp_end {σ : zS} {S : qS} {n : Int32} {K : Int32 → zS → Prop} {QX : zS → Prop} (hI : zInv σ S) (h : ∀ s, zInv s (qEnd S n).2 → K (qEnd S n).1 s) : zCT zZM zmX10_end [.ref 0, .int n] σ (zQi K) QX := by
  refine rX10_end ?_
  unfold PX10_end_0
  obtain ⟨Bn, Br, hB, b1, b2, ht, hb, h6, hf, h7, ⟨V, hV⟩, hR⟩ := id hI
  unfold qEnd at h
  rw [ht.1]
  refine ⟨fun q => ⟨Or.inl rfl, ?_⟩, fun q => ⟨fun q2 s1 e1 => ⟨Or.inr rfl, ?_⟩, fun q2 => ⟨Or.inl rfl, ?_⟩⟩⟩
  · rw [if_pos (Or.inl q)] at h; exact h σ hI
  · rw [if_neg (fun z => by rcases z with z | z; exact q z; exact z q2)] at h
    have hn : n.toNatClampNeg ≤ S.1.length ∧ n = nI n.toNatClampNeg := by
      have hl := ht.2.1
      have h0 : ¬ n.toInt < 0 := fun z => q (Int32.lt_iff_toInt_lt.2 (by simpa using z))
      have h1 : n.toInt ≤ (nI S.1.length).toInt := Int32.le_iff_toInt_le.1 q2
      rw [nI_toInt (by omega)] at h1
      have h2 : (n.toNatClampNeg : Int) = n.toInt := by
        show ((n.toInt).toNat : Int) = n.toInt
        omega
      refine ⟨by omega, ?_⟩
      apply Int32.toInt_inj.1
      rw [nI_toInt (by omega)]
      exact h2.symm
    have hl := ht.2.1
    have htl : (S.1.take n.toNatClampNeg).length = n.toNatClampNeg := by rw [List.length_take]; omega
    have rg : rgK σ s1 := fun c i hc => by rw [e1]; exact ⟨by rw [zI1, if_neg (by omega)], rfl⟩
    refine h s1 ⟨Bn, Br, hB, ?_, ?_, ⟨?_, by rw [htl]; omega, fun j hj => ?_⟩, fun x hx => hb x (List.mem_of_mem_take hx), ?_, hf, ?_, ⟨V, fun j hj => ⟨(hV j hj).1, by rw [(rg 4 j (by omega)).1]; exact (hV j hj).2⟩⟩, ?_⟩
    · rw [e1, zI1, if_neg (by omega)]; exact b1
    · rw [e1, zI1, if_neg (by omega)]; exact b2
    · rw [e1, zI1, if_pos ⟨rfl, rfl⟩, htl]; exact hn.2
    · rw [htl] at hj
      rw [e1, zI1, if_neg (by omega), ht.2.2 j (by omega)]
      rw [List.getD_eq_getElem?_getD, List.getD_eq_getElem?_getD, List.getElem?_take, if_pos hj]
    · rw [e1, zI1, if_neg (by omega)]; exact h6
    · rw [e1, zI1, if_neg (by omega)]; exact h7
    · have g2 : s1.1 0 2 = σ.1 0 2 := by rw [e1, zI1, if_neg (by omega)]
      cases hq : S.2.2.2 with
      | none => rw [hq] at hR; show s1.1 0 2 = 0; rw [g2]; exact hR
      | some A => rw [hq] at hR; exact ⟨by rw [g2]; exact hR.1, mRgt_K hR.2 rg⟩
  · rw [if_pos (Or.inr q2)] at h; exact h σ hI
theorem sp_place {σ : zS} {S : qS} {K : Int32 → zS → Prop} {QX : zS → Prop} (hI : zInv σ S) (h : K S.2.2.1 σ) : zCT zZM zmX10_place [.ref 0] σ (zQi K) QX := by
  refine rX10_place ?_
  unfold PX10_place_0
  obtain ⟨Bn, Br, hB, b1, b2, ht, hb, h6, hf, h7, _⟩ := hI
  rw [h7]
  exact h
theorem sp_count {σ : zS} {S : qS} {w : Int32} {K : Int32 → zS → Prop} {QX : zS → Prop} (hI : zInv σ S) (h : K (qCount S w) σ) : zCT zZM zmX10_count [.ref 0, .int w] σ (zQi K) QX := by
  refine rX10_count ?_
  unfold PX10_count_0
  obtain ⟨Bn, Br, hB, b1, b2, ht, hb, h6, hf, h7, _, hR⟩ := hI
  unfold qCount at h
  cases hq : S.2.2.2 with
  | none =>
    rw [hq] at hR h
    have hR : σ.1 0 2 = 0 := hR
    rw [hR]
    exact ⟨fun _ => h, fun q => absurd rfl q⟩
  | some A =>
    rw [hq] at hR h
    obtain ⟨hR1, hR, _⟩ := hR
    obtain ⟨a1, a2, a3, a4, a5, a6, a7, a9, a10, a11⟩ := hR
    have n2 : σ.1 2 2 = nI (aS A).length := a1.1
    have n3 : σ.1 2 3 = nI (aI A).length := a2.1
    have n4 : σ.1 2 4 = nI (aF A).length := a3.1
    have n12 : σ.1 2 12 = nI (aT A).length := a4.1
    have n13 : σ.1 2 13 = nI (aM A).length := a5.1
    have n5 : σ.1 2 5 = nI (aG A).length := a6.1
    have n6 : σ.1 2 6 = nI (aX A).length := a7.1
    have n7 : σ.1 2 7 = nI (aE A).length := a9.1
    have n8 : σ.1 2 8 = nI (aZ A).length := a11.1
    have h : K (if w = 1 then nI (aS A).length else if w = 2 then nI (aI A).length else if w = 3 then nI (aF A).length else if w = 4 then nI (aT A).length else if w = 5 then nI (aM A).length else if w = 6 then nI (aG A).length else if w = 7 then nI (aX A).length else if w = 9 then nI (aE A).length else if w = 11 then nI (aZ A).length else -1) σ := h
    rw [hR1, n2, n3, n4, n12, n13, n5, n6, n7, n8]
    refine ⟨fun q => absurd q (by decide), fun _ => ⟨fun q => ?_, fun q => ?_⟩⟩
    · rw [if_pos q] at h; exact h
    rw [if_neg q] at h
    refine ⟨fun q => ?_, fun q => ?_⟩
    · rw [if_pos q] at h; exact h
    rw [if_neg q] at h
    refine ⟨fun q => ?_, fun q => ?_⟩
    · rw [if_pos q] at h; exact h
    rw [if_neg q] at h
    refine ⟨fun q => ?_, fun q => ?_⟩
    · rw [if_pos q] at h; exact h
    rw [if_neg q] at h
    refine ⟨fun q => ?_, fun q => ?_⟩
    · rw [if_pos q] at h; exact h
    rw [if_neg q] at h
    refine ⟨fun q => ?_, fun q => ?_⟩
    · rw [if_pos q] at h; exact h
    rw [if_neg q] at h
    refine ⟨fun q => ?_, fun q => ?_⟩
    · rw [if_pos q] at h; exact h
    rw [if_neg q] at h
    refine ⟨fun q => ?_, fun q => ?_⟩
    · rw [if_pos q] at h; exact h
    rw [if_neg q] at h
    refine ⟨fun q => ?_, fun q => ?_⟩
    · rw [if_pos q] at h; exact h
    rw [if_neg q] at h
    exact h
/-- what is known of the own function k of the latest module -/
def ownAt (σ : zS) (A : mA) (k : Nat) (Br : Nat) (b : Nat → Nat) (E : Nat) : Prop := k < (aF A).length ∧ (aF A).length ≤ 64 ∧ k < (aD A).length ∧ mRgt σ Br A ∧ E ≤ 16000 ∧ Br ≤ 16000 ∧ (∀ j, j < 16000 → b j < 256 ∧ σ.1 4 (Br + j) = sb_b (b j)) ∧ mFrom b E A ∧ nG A
theorem sp_isOwn {σ : zS} {S : qS} {f : Int32} {K : Int32 → zS → Prop} {QX : zS → Prop} (hI : zInv σ S) (h0 : qOwn S f = none → K 0 σ) (h1 : ∀ A k Br b E, f = nI k → S.2.2.2 = some A → ownAt σ A k Br b E → qOwn S f = some ((aS A).getD ((aF A).getD k (0, 0)).2 ([], 0), (aD A).getD k bd0) → K 1 σ) : zCT zZM zmX10_isOwn [.ref 0, .int f] σ (zQi K) QX := by
  refine rX10_isOwn ?_
  unfold PX10_isOwn_0
  obtain ⟨Bn, Br, hB, b1, b2, ht, hb, h6, hf, h7, _, hR⟩ := hI
  unfold qOwn at h0 h1
  cases hq : S.2.2.2 with
  | none =>
    rw [hq] at hR h0
    have hR : σ.1 0 2 = 0 := hR
    rw [hR]
    exact ⟨fun _ => ⟨Or.inl rfl, h0 rfl⟩, fun q => absurd rfl q⟩
  | some A =>
    rw [hq] at hR h0
    have h1 := fun k Br b E (e : f = nI k) => h1 A k Br b E e hq
    rw [hq] at h1
    obtain ⟨hR1, hR⟩ := hR
    obtain ⟨hX, hBr, b, E, hE, hby, hM, hD, hg⟩ := id hR
    have n4 : σ.1 2 4 = nI (aF A).length := hX.2.2.1.1
    have n64 := hX.2.2.1.2.1
    have h0 : (if f < 0 ∨ nI (aF A).length ≤ f then none else some ((aS A).getD ((aF A).getD f.toNatClampNeg (0, 0)).2 ([], 0), (aD A).getD f.toNatClampNeg bd0)) = none → K 0 σ := h0
    rw [hR1, n4]
    refine ⟨fun q => absurd q (by decide), fun _ => ⟨fun q => ⟨Or.inl rfl, h0 (if_pos (Or.inl q))⟩, fun q => ⟨fun q2 => ⟨Or.inl rfl, h0 (if_pos (Or.inr q2))⟩, fun q2 => ⟨Or.inr rfl, ?_⟩⟩⟩⟩
    have hn : f.toNatClampNeg < (aF A).length ∧ f = nI f.toNatClampNeg := by
      have h0 : ¬ f.toInt < 0 := fun z => q (Int32.lt_iff_toInt_lt.2 (by simpa using z))
      have h1 : ¬ (nI (aF A).length).toInt ≤ f.toInt := fun z => q2 (Int32.le_iff_toInt_le.2 z)
      rw [nI_toInt (by omega)] at h1
      have h2 : (f.toNatClampNeg : Int) = f.toInt := by
        show ((f.toInt).toNat : Int) = f.toInt
        omega
      refine ⟨by omega, ?_⟩
      apply Int32.toInt_inj.1
      rw [nI_toInt (by omega)]
      exact h2.symm
    exact h1 f.toNatClampNeg Br b E hn.2 ⟨hn.1, n64, by omega, hR, hE, hBr, hby, hM, hg⟩ (if_neg (fun z => by rcases z with z | z; exact q z; exact q2 z))
theorem mOps_hc {b : Nat → Nat} {e op fr a : Nat} {hc : Bool} {r : mInsT × Nat} (h : mOps b e hc op fr a = .ok r) : mOps b e true op fr a = .ok r := by
  cases hc with
  | true => exact h
  | false =>
    by_cases k9 : mFollows op = 9
    · rw [mOps, if_neg (by omega), if_neg (by omega), if_neg (by omega), if_neg (by omega), if_neg (by omega), if_neg (by omega), if_neg (by omega), if_neg (by omega), if_neg (by omega), if_pos k9] at h ⊢
      cases hn : mU b e a with
      | error q => rw [hn] at h; cases h
      | ok n =>
        rw [hn] at h
        have h : (if n.1 < 8 ∨ 14 < n.1 then .error (1, a)
    else if (n.1 = 8 ∨ n.1 = 9) ∧ false = false then .error (1, fr)
    else (if n.1 = 8 ∨ n.1 = 9 ∨ n.1 = 12 ∨ n.1 = 13 then mU b e n.2 else .ok (0, n.2)).bind fun u =>
      (if n.1 = 8 ∨ n.1 = 11 ∨ n.1 = 12 then mNeed b e 0 u.2 else .ok u.2 : mE Nat).bind fun p =>
      (if n.1 = 10 ∨ n.1 = 14 then (mNeed b e 0 p).bind fun q => mNeed b e 0 q else .ok p : mE Nat).bind fun q => (.ok ((256 + n.1, u.1, []), q) : mE (mInsT × Nat))) = .ok r := h
        show (if n.1 < 8 ∨ 14 < n.1 then .error (1, a)
    else if (n.1 = 8 ∨ n.1 = 9) ∧ true = false then .error (1, fr)
    else (if n.1 = 8 ∨ n.1 = 9 ∨ n.1 = 12 ∨ n.1 = 13 then mU b e n.2 else .ok (0, n.2)).bind fun u =>
      (if n.1 = 8 ∨ n.1 = 11 ∨ n.1 = 12 then mNeed b e 0 u.2 else .ok u.2 : mE Nat).bind fun p =>
      (if n.1 = 10 ∨ n.1 = 14 then (mNeed b e 0 p).bind fun q => mNeed b e 0 q else .ok p : mE Nat).bind fun q => (.ok ((256 + n.1, u.1, []), q) : mE (mInsT × Nat))) = .ok r
        by_cases q1 : n.1 < 8 ∨ 14 < n.1
        · rw [if_pos q1] at h; cases h
        rw [if_neg q1] at h ⊢
        by_cases q2 : n.1 = 8 ∨ n.1 = 9
        · rw [if_pos ⟨q2, rfl⟩] at h; cases h
        rw [if_neg (fun z => q2 z.1)] at h ⊢
        exact h
    · by_cases k : mFollows op ≤ 8
      · unfold mOps at h ⊢
        by_cases k0 : mFollows op = 0
        · rw [if_pos k0] at h ⊢; exact h
        rw [if_neg k0] at h ⊢
        by_cases k0 : mFollows op = 1
        · rw [if_pos k0] at h ⊢; exact h
        rw [if_neg k0] at h ⊢
        by_cases k0 : mFollows op = 2
        · rw [if_pos k0] at h ⊢; exact h
        rw [if_neg k0] at h ⊢
        by_cases k0 : mFollows op = 3
        · rw [if_pos k0] at h ⊢; exact h
        rw [if_neg k0] at h ⊢
        by_cases k0 : mFollows op = 4
        · rw [if_pos k0] at h ⊢; exact h
        rw [if_neg k0] at h ⊢
        by_cases k0 : mFollows op = 5
        · rw [if_pos k0] at h ⊢; exact h
        rw [if_neg k0] at h ⊢
        by_cases k0 : mFollows op = 6
        · rw [if_pos k0] at h ⊢; exact h
        rw [if_neg k0] at h ⊢
        by_cases k0 : mFollows op = 7
        · rw [if_pos k0] at h ⊢; exact h
        rw [if_neg k0] at h ⊢
        by_cases k0 : mFollows op = 8
        · rw [if_pos k0] at h ⊢; exact h
        omega
      · exfalso
        rw [mOps, if_neg (by omega), if_neg (by omega), if_neg (by omega), if_neg (by omega), if_neg (by omega), if_neg (by omega), if_neg (by omega), if_neg (by omega), if_neg (by omega), if_neg k9] at h
        cases h
