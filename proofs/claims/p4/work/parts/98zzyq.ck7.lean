/-! instructions, code, locals -/
theorem own_cases (S : qS) (f : Int32) : qOwn S f = none ∨ ∃ A k, S.2.2.2 = some A ∧ f = nI k ∧ k < (aF A).length ∧ (aF A).length < 2 ^ 31 ∧ qOwn S f = some (ownS A k, (aD A).getD k bd0) ∨ ¬ (∀ A, S.2.2.2 = some A → (aF A).length < 2 ^ 31) := by
  cases ho : S.2.2.2 with
  | none => exact Or.inl (by unfold qOwn; rw [ho])
  | some A =>
    by_cases hF : (aF A).length < 2 ^ 31
    · by_cases q : f < 0 ∨ nI (aF A).length ≤ f
      · exact Or.inl (by unfold qOwn; rw [ho]; exact if_pos q)
      · obtain ⟨w1, w2⟩ := i_at hF (fun z => q (Or.inl z)) (fun z => q (Or.inr z))
        exact Or.inr ⟨A, f.toNatClampNeg, Or.inl ⟨rfl, w1, w2, hF, by unfold qOwn; rw [ho]; exact if_neg q⟩⟩
    · exact Or.inr ⟨A, 0, Or.inr (fun z => hF (z A rfl))⟩
theorem has_none {σ : zS} {S : qS} {f : Int32} {K : Int32 → zS → Prop} {QX : zS → Prop} (hk : kR σ S.2.2.2) (hq : qOwn S f = none) (h : K 0 σ) : zCT zZC zmX0_has [.ref 9, .int f] σ (zQi K) QX := by
  refine rX0_has ?_
  unfold PX0_has_0
  have end_ : ¬ f < 0 → σ.1 9 6 ≤ f := fun z => by
    unfold qOwn at hq
    cases ho : S.2.2.2 with
    | none =>
      rw [ho] at hk
      rw [hk.1]
      rw [Int32.lt_iff_toInt_lt] at z
      rw [Int32.le_iff_toInt_le]
      exact Int.not_lt.1 z
    | some A =>
      rw [ho] at hk hq
      rw [hk.2.1]
      by_cases q : f < 0 ∨ nI (aF A).length ≤ f
      · exact q.resolve_left z
      · have hq : (if f < 0 ∨ nI (aF A).length ≤ f then none else some ((aS A).getD ((aF A).getD f.toNatClampNeg (0, 0)).2 ([], 0), (aD A).getD f.toNatClampNeg bd0) : Option (mSigT × mBdT)) = none := hq
        rw [if_neg q] at hq; cases hq
  exact ⟨fun _ => ⟨Or.inl rfl, h⟩, fun z => ⟨fun _ => ⟨Or.inl rfl, h⟩, fun w => absurd (end_ z) w⟩⟩
theorem has_some {σ : zS} {A : mA} {k : Nat} {K : Int32 → zS → Prop} {QX : zS → Prop} (hk : kR σ (some A)) (hf : k < (aF A).length) (h : K 1 σ) : zCT zZC zmX0_has [.ref 9, .int (nI k)] σ (zQi K) QX := by
  obtain ⟨k1, k2, k3, -⟩ := hk
  refine rX0_has ?_
  unfold PX0_has_0
  rw [k2]
  exact ⟨fun z => absurd z (nI_pos (by omega)), fun _ => ⟨fun z => absurd ((nI_leI (by omega) (by omega)).1 z) (by omega), fun _ => ⟨fun z => absurd ((nI_leI (by decide) (by omega)).1 z) (by omega), fun _ => ⟨Or.inr rfl, h⟩⟩⟩⟩
theorem kR_F {σ : zS} {S : qS} (hk : kR σ S.2.2.2) : ∀ A, S.2.2.2 = some A → (aF A).length < 2 ^ 31 := fun A hA => by
  rw [hA] at hk
  have := hk.2.2.1
  omega
theorem own_or {σ : zS} {S : qS} (hk : kR σ S.2.2.2) (f : Int32) : qOwn S f = none ∨ ∃ A k, S.2.2.2 = some A ∧ f = nI k ∧ k < (aF A).length ∧ qOwn S f = some (ownS A k, (aD A).getD k bd0) := by
  rcases own_cases S f with h | ⟨A, k, ⟨h1, h2, h3, -, h5⟩ | h⟩
  · exact Or.inl h
  · exact Or.inr ⟨A, k, h1, h2, h3, h5⟩
  · exact absurd (kR_F hk) h
theorem kR_row {σ : zS} {A : mA} {k : Nat} (hk : kR σ (some A)) (hf : k < (aF A).length) : k < 64 ∧ (aD A)[k]? = some ((aD A).getD k bd0) ∧ σ.1 34 k = nI (allC ((aD A).take k)).length ∧ σ.1 35 k = nI (((aD A).getD k bd0).2.2.2.2).length ∧ σ.1 36 k = nI (bdL (ownS A k) ((aD A).getD k bd0)).length := by
  obtain ⟨k1, k2, k3, k4, k5, k6, -⟩ := hk
  have hx := getD_of (l := aD A) (d := bd0) (show k < (aD A).length by omega)
  obtain ⟨a1, a2, a3⟩ := k6 k _ hx
  rw [cds_len] at a2
  exact ⟨by omega, hx, a1, a2, a3⟩
theorem sc_instr {σ : zS} {S : qS} {f : Int32} {K : Int32 → zS → Prop} {QX : zS → Prop} (hZ : cZ σ S) (h : K (qInstr S f) σ) : zCT zZC zmX8_instructions [.ref 0, .int f] σ (zQi K) QX := by
  have hk := hZ.2.2.2.2.2.2
  refine rX8_instructions ?_
  unfold PX8_instructions_0
  rcases own_or hk f with hq | ⟨A, k, hA, rfl, hf, hq⟩
  · have e : qInstr S f = -1 := by unfold qInstr; rw [hq]
    rw [e] at h
    exact has_none hk hq ⟨fun _ => h, fun z => absurd rfl z⟩
  · rw [hA] at hk
    obtain ⟨k64, hx, r34, r35, r36⟩ := kR_row hk hf
    have e : qInstr S (nI k) = nI (((aD A).getD k bd0).2.2.2.2).length := by unfold qInstr; rw [hq]
    rw [e] at h
    refine has_some hk hf ⟨fun z => absurd z (by decide), fun _ => ⟨vp_in_nI k64 (by decide), ?_⟩⟩
    rw [nI_clamp (by omega), r35]
    exact h
theorem sc_locals {σ : zS} {S : qS} {f : Int32} {K : Int32 → zS → Prop} {QX : zS → Prop} (hZ : cZ σ S) (h : K (qLocals S f) σ) : zCT zZC zmX8_locals [.ref 0, .int f] σ (zQi K) QX := by
  have hk := hZ.2.2.2.2.2.2
  refine rX8_locals ?_
  unfold PX8_locals_0
  rcases own_or hk f with hq | ⟨A, k, hA, rfl, hf, hq⟩
  · have e : qLocals S f = -1 := by unfold qLocals; rw [hq]
    rw [e] at h
    exact has_none hk hq ⟨fun _ => h, fun z => absurd rfl z⟩
  · rw [hA] at hk
    obtain ⟨k64, hx, r34, r35, r36⟩ := kR_row hk hf
    have e : qLocals S (nI k) = nI (bdL (ownS A k) ((aD A).getD k bd0)).length := by unfold qLocals; rw [hq]
    rw [e] at h
    refine has_some hk hf ⟨fun z => absurd z (by decide), fun _ => ⟨vp_in_nI k64 (by decide), ?_⟩⟩
    rw [nI_clamp (by omega), r36]
    exact h
theorem allC_at {l : List mBdT} {k j : Nat} {x : mBdT} (hx : l[k]? = some x) (hj : j < x.2.2.2.2.length) : (allC l)[(allC (l.take k)).length + j]? = some (x.2.2.2.2.getD j ins0).2.1 := by
  have hk := get_len hx
  have el : l = l.take k ++ (x :: l.drop (k + 1)) := by
    have h1 := List.take_append_drop k l
    have h2 : l.drop k = x :: l.drop (k + 1) := by
      rw [List.drop_eq_getElem_cons hk]
      congr 1
      rw [List.getElem?_eq_getElem hk] at hx
      exact Option.some.inj hx
    rw [h2] at h1
    exact h1.symm
  have ea : allC l = allC (l.take k) ++ (cds x.2.2.2.2 ++ allC (l.drop (k + 1))) := by
    conv => lhs; rw [el]
    unfold allC
    rw [List.map_append, List.flatten_append]
    rfl
  rw [ea, List.getElem?_append_right (by omega), Nat.add_sub_cancel_left, List.getElem?_append_left (by rw [cds_len]; exact hj)]
  unfold cds
  rw [List.getElem?_map, getD_of (d := ins0) hj]
  rfl
theorem sc_code {σ : zS} {S : qS} {f i : Int32} {K : Int32 → zS → Prop} {QX : zS → Prop} (hZ : cZ σ S) (h : K (qCode S f i) σ) : zCT zZC zmX8_code [.ref 0, .int f, .int i] σ (zQi K) QX := by
  have hk := hZ.2.2.2.2.2.2
  refine rX8_code ?_
  unfold PX8_code_0
  rcases own_or hk f with hq | ⟨A, k, hA, rfl, hf, hq⟩
  · have e : qCode S f i = -1 := by unfold qCode; rw [hq]
    rw [e] at h
    exact has_none hk hq ⟨fun _ => h, fun z => absurd rfl z⟩
  · rw [hA] at hk
    obtain ⟨k64, hx, r34, r35, r36⟩ := kR_row hk hf
    obtain ⟨k1, k2, k3, k4, k5, k6, k7, k8⟩ := id hk
    obtain ⟨x, ex⟩ : ∃ x, x = (aD A).getD k bd0 := ⟨_, rfl⟩
    rw [← ex] at hx r35 hq
    have e : qCode S (nI k) i = if i < 0 ∨ nI x.2.2.2.2.length ≤ i then -1 else nI (x.2.2.2.2.getD i.toNatClampNeg ins0).2.1 := by unfold qCode; rw [hq]
    have hlen : ∀ j, j < x.2.2.2.2.length → (allC ((aD A).take k)).length + j < (allC (aD A)).length := fun j hj => get_len (allC_at hx hj)
    have hcl : x.2.2.2.2.length ≤ 16000 := by
      rcases Nat.eq_zero_or_pos x.2.2.2.2.length with z | z
      · omega
      · have := hlen (x.2.2.2.2.length - 1) (by omega); omega
    rw [e] at h
    refine has_some hk hf ⟨fun z => absurd z (by decide), fun _ => ?_⟩
    refine rX0_codeAt ?_
    unfold PX0_codeAt_0
    refine has_some hk hf ⟨fun z => absurd z (by decide), fun _ => ⟨fun z => ?_, fun q0 => ⟨vp_in_nI k64 (by decide), fun q1 => ⟨vp_in_nI k64 (by decide), ?_⟩, fun q1 => ?_⟩⟩⟩
    · rw [if_pos (Or.inl z)] at h; exact h
    · rw [nI_clamp (by omega), r35] at q1
      have q1' : ¬ nI x.2.2.2.2.length ≤ i := fun z => Int32.not_lt.2 z q1
      obtain ⟨w1, w2⟩ := i_at (by omega) q0 q1'
      rw [if_neg (fun z => z.elim q0 q1')] at h
      rw [nI_clamp (by omega), r34]
      have hcell := hlen _ w2
      have ec : nI (allC ((aD A).take k)).length + i = nI ((allC ((aD A).take k)).length + i.toNatClampNeg) := by
        conv => lhs; rw [w1]
        exact nI_add _ _
      rw [ec, nI_clamp (by omega)]
      refine ⟨fun z => absurd z (nI_pos (by omega)), fun _ => ⟨fun z => absurd ((nI_leI (by decide) (by omega)).1 z) (by omega), fun _ => ⟨vp_in_nI (by omega) (by decide), ?_⟩⟩⟩
      rw [k8 _ _ (allC_at hx w2)]
      exact h
    · rw [nI_clamp (by omega), r35] at q1
      rw [if_pos (Or.inr (Int32.not_lt.1 q1))] at h
      exact h
theorem zC0_Z : cZ zC0 ([], 0, -1, none) := ⟨⟨rfl, Nat.zero_le _, fun j hj => absurd hj (Nat.not_lt_zero _)⟩, fun x hx => absurd hx List.not_mem_nil, rfl, Nat.zero_le _, ⟨by decide, Or.inl rfl, by decide, fun _ => rfl⟩, ⟨fun _ => 0, fun _ _ => ⟨Nat.zero_lt_succ _, rfl⟩⟩, ⟨rfl, rfl⟩⟩
