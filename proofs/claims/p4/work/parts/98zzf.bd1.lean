/-! THE CLASS's bodies: where an instruction may stand, the codes, the turns, the groups -/
theorem rd_look {s : zS} {b : Nat → Nat} {e a x fr : Nat} {ow : List Nat} {nd : Option Nat} {K : zS → Prop} {QX : zS → Prop} (hs : cSt s b e a) (h3 : s.1 6 3 = nI x) (hx : x < 300) (h2 : s.1 6 2 = nI fr) (hd : s.1 5 5 = nI ow.length) (ho : owC s ow) (hl : ow.length ≤ 60) (h0 : s.1 21 0 = nI 2) (hnd : s.2 2 14 = optL nd) (hnd2 : ∀ m, nd = some m → m < 2 ^ 35)
    (h : mW (if (2 ≤ x ∧ x ≤ 4) ∧ ow.length = 60 then .error (4, fr) else if x = 5 ∧ ¬ ow.head? = some 4 then .error (1, fr) else if (x = 264 ∨ x = 265) ∧ nd = none then .error (1, fr) else .ok () : mE Unit) (fun _ => K s) (cEv s K)) : zCT zZC zmX1_lookWhereItStands [.ref 4] s (zQv K) QX := by
  have c : ∀ j, j < 400 → (nI x = nI j ↔ x = j) := fun j hj => nI_eq (by omega) (by omega)
  refine rX1_lookWhereItStands ?_
  unfold PX1_lookWhereItStands_0
  rw [h3]
  have z1 : zin (nI x) [2, 3, 4] ↔ (2 ≤ x ∧ x ≤ 4) := by
    show (nI x = nI 2 ∨ nI x = nI 3 ∨ nI x = nI 4) ↔ _
    rw [c 2 (by decide), c 3 (by decide), c 4 (by decide)]
    omega
  have z2 : nI x = (5 : Int32) ↔ x = 5 := c 5 (by decide)
  have z3 : zin (nI x) [264, 265] ↔ (x = 264 ∨ x = 265) := by
    show (nI x = nI 264 ∨ nI x = nI 265) ↔ _
    rw [c 264 (by decide), c 265 (by decide)]
  have z4 : (s.1 5 5) < (60 : Int32) ↔ ow.length < 60 := by rw [hd]; exact nI_ltI (b := 60) (by omega) (by decide)
  have z5 : (0 : Int64) ≤ (s.2 2 14) ↔ ¬ nd = none := by
    rw [hnd]
    cases hn : nd with
    | none => exact ⟨fun z => absurd z (by decide), fun z => absurd rfl z⟩
    | some m =>
      have := hnd2 m hn
      exact ⟨fun _ z => (by cases z), fun _ => (lN_leB (a := 0) (by decide) (by omega)).2 (Nat.zero_le _)⟩
  rw [z1, z2, z3, z4, z5]
  refine ⟨fun q => ⟨fun q2 => ?_, fun q2 => ?_⟩, fun q => ⟨fun q2 => ?_, fun q2 => ⟨fun q3 => ⟨fun q4 => ?_, fun q4 => ?_⟩, fun q3 => ?_⟩⟩⟩
  · rw [if_neg (by omega), if_neg (by omega), if_neg (by omega)] at h; exact h
  · rw [if_pos ⟨q, by omega⟩] at h
    exact rd_fail 4 fr hs (by decide) h2 (fun s1 her q1 => h s1 her q1)
  · rw [if_neg (by omega)] at h
    refine rX3_openedBy ?_
    unfold PX3_openedBy_0
    rw [hd, nI_clamp (by omega)]
    refine ⟨fun z => absurd z (nI_pos (by omega)), fun _ => ⟨fun z => absurd ((nI_leI (by decide) (by omega)).1 z) (by omega), fun _ => ⟨vp_in_nI (by omega) (by decide), ?_⟩⟩⟩
    have bad : x = 5 ∧ ¬ ow.head? = some 4 → zCT zZC zmX4_fail [.ref 1, .int (1 : Int32), .int (s.1 6 2)] s (zQv (fun s4 => zQv K none s4)) QX := fun z => by
      rw [if_pos z] at h
      exact rd_fail 1 fr hs (by decide) h2 (fun s1 her q1 => h s1 her q1)
    cases ow with
    | nil =>
      have e0 : s.1 21 ([] : List Nat).length = nI 2 := h0
      rw [e0]
      exact ⟨fun z => absurd z (by decide), fun _ => bad ⟨q2, fun z => (by cases z)⟩⟩
    | cons y r =>
      have e1 : s.1 21 (y :: r).length = nI y := ho.1
      have hy := ho.2.1
      rw [e1]
      have c4 : nI y = (4 : Int32) ↔ y = 4 := nI_eq (b := 4) (by omega) (by decide)
      refine ⟨fun z => ?_, fun z => bad ⟨q2, fun z2 => z (c4.2 (Option.some.inj z2))⟩⟩
      rw [if_neg (fun w => w.2 (by rw [c4.1 z]; rfl)), if_neg (by omega)] at h
      exact h
  · rw [if_neg (by omega), if_neg (by omega), if_neg (fun z => q4 z.2)] at h; exact h
  · rw [if_neg (by omega), if_neg (by omega), if_pos ⟨q3, Decidable.not_not.1 q4⟩] at h
    exact rd_fail 1 fr hs (by decide) h2 (fun s1 her q1 => h s1 her q1)
  · rw [if_neg (by omega), if_neg (by omega), if_neg (fun z => q3 z.1)] at h; exact h
/-- the codes so far -/
def cdR (s : zS) (C : List Nat) : Prop := s.1 8 5 = nI C.length ∧ C.length ≤ 16000 ∧ ∀ i x, C[i]? = some x → s.1 32 i = nI x
theorem sh_nI : ∀ x, x < 300 → vp_nar .short ((nI x).toInt16.toInt32) = nI x := by decide +kernel
theorem m12 {c i : Nat} (hc : (c = 8 ∧ i = 5) ∨ c = 29 ∨ c = 30 ∨ c = 31 ∨ c = 32) : cown c i ∈ [12] := by
  have e : cown c i = 12 := by
    rcases hc with ⟨rfl, rfl⟩ | rfl | rfl | rfl | rfl <;> rfl
  rw [e]; exact List.mem_singleton.2 rfl
theorem rd_addCode {s : zS} {C : List Nat} {x : Nat} {K : zS → Prop} {QX : zS → Prop} (hv : sV s) (hc : cdR s C) (hl : C.length < 16000) (hx : x < 300) (h : ∀ s', gF [12] s s' → sV s' → cdR s' (C ++ [x]) → (∀ i, s'.1 29 i = s.1 29 i ∧ s'.1 30 i = s.1 30 i ∧ s'.1 31 i = s.1 31 i) → K s') : zCT zZC zmX0_addCode [.ref 8, .int (nI x)] s (zQv K) QX := by
  obtain ⟨h1, h2, h3⟩ := hc
  refine rX0_addCode ?_
  unfold PX0_addCode_0
  rw [h1, nI_clamp (by omega)]
  refine ⟨fun z => absurd z (nI_pos (by omega)), fun _ => ⟨fun z => absurd ((nI_leI (by decide) (by omega)).1 z) (by omega), fun _ => ⟨vp_in_nI (by omega) (by decide), fun s1 e1 s2 e2 => ?_⟩⟩⟩
  have n1 : s1.1 8 5 = nI C.length := by rw [e1, zI1, if_neg (by omega)]; exact h1
  have k1 : sR s s1 := by rw [e1]; exact (sR.rf hv).c _
  rw [sh_nI x hx] at e1
  rw [n1, nI_1] at e2
  have k2 : sR s s2 := by rw [e2]; exact k1.i _ (by omega)
  have g : ∀ c i, ¬ (c = 8 ∧ i = 5) → s2.1 c i = s1.1 c i := fun c i z => by rw [e2, zI1, if_neg (by omega)]
  refine h s2 (by rw [e2, e1]; exact (gF.rf.i _ (m12 (by omega))).i _ (m12 (by omega))) k2.2 ⟨by rw [e2, zI1, if_pos ⟨rfl, rfl⟩]; simp, by simp; omega, fun i y hy => ?_⟩ (fun i => ⟨?_, ?_, ?_⟩)
  · rw [g _ _ (by omega), e1, zI1]
    by_cases q : i = C.length
    · rw [if_pos ⟨rfl, q⟩]
      rw [q, List.getElem?_append_right (Nat.le_refl _), Nat.sub_self] at hy
      cases hy
      rfl
    · rw [if_neg (by omega)]
      have hi : i < C.length := by
        have := (List.getElem?_eq_some_iff.1 hy).1
        rw [List.length_append] at this
        simp at this
        omega
      rw [List.getElem?_append_left hi] at hy
      exact h3 i y hy
  · rw [g _ _ (by omega), e1, zI1, if_neg (by omega)]
  · rw [g _ _ (by omega), e1, zI1, if_neg (by omega)]
  · rw [g _ _ (by omega), e1, zI1, if_neg (by omega)]
theorem lcR_add {s s1 s2 : zS} {L : List Nat} {t : Nat} (h : lcR s L) (hl : L.length < 80) (ht : t ≤ 1) (e1 : s1 = zsI s 27 L.length (nI (tyN t))) (e2 : s2 = zsI s1 7 3 ((s1.1 7 3) + (1 : Int32))) : lcR s2 (L ++ [t]) := by
  have n1 : s1.1 7 3 = nI L.length := by rw [e1, zI1, if_neg (by omega)]; exact h.2.1
  rw [n1, nI_1] at e2
  refine ⟨by simp; omega, by rw [e2, zI1, if_pos ⟨rfl, rfl⟩]; simp, fun i y hy => ?_⟩
  have e27 : s2.1 27 i = if i = L.length then nI (tyN t) else s.1 27 i := by
    rw [e2, zI1, if_neg (by omega), e1, zI1]
    by_cases q : i = L.length
    · rw [if_pos ⟨rfl, q⟩, if_pos q]
    · rw [if_neg (by omega), if_neg q]
  rw [e27]
  by_cases q : i = L.length
  · rw [q, List.getElem?_append_right (Nat.le_refl _), Nat.sub_self] at hy
    cases hy
    rw [if_pos q]
    exact ⟨ht, rfl⟩
  · have hi : i < L.length := by
      have := (List.getElem?_eq_some_iff.1 hy).1
      rw [List.length_append] at this
      simp at this
      omega
    rw [List.getElem?_append_left hi] at hy
    rw [if_neg q]
    exact h.2.2 i y hy
theorem m15 {c i : Nat} (hc : c = 7 ∨ c = 27) : cown c i ∈ [15] := by
  have e : cown c i = 15 := by rcases hc with rfl | rfl <;> rfl
  rw [e]; exact List.mem_singleton.2 rfl
/-- n locals more -/
theorem rd_addLocals {s : zS} {L : List Nat} {n t : Nat} {K : zS → Prop} {QX : zS → Prop} (hv : sV s) (hL : lcR s L) (hn : L.length + n ≤ 80) (ht : t ≤ 1) (h : ∀ s', gF [15] s s' → sV s' → lcR s' (L ++ List.replicate n t) → K s') : zCT zZC zmX7_addLocals [.ref 7, .int (nI n), .int (nI (tyN t))] s (zQv K) QX := by
  refine rX7_addLocals (fun m x1 x2 x3 σ => ∃ j, m + j = n ∧ x1 = nI n ∧ x2 = nI (tyN t) ∧ x3 = nI j ∧ gF [15] s σ ∧ sV σ ∧ lcR σ (L ++ List.replicate j t)) ?_ ?_
  · rintro m x1 x2 x3 σ ⟨j, hm, rfl, rfl, rfl, g, v, hl⟩
    unfold PX7_addLocals_2
    have c1 : nI n ≤ nI j ↔ n ≤ j := nI_leI (by omega) (by omega)
    have hlen : (L ++ List.replicate j t).length = L.length + j := by simp
    have c2 : nI 80 ≤ (σ.1 7 3) ↔ 80 ≤ L.length + j := by rw [hl.2.1, hlen, nI_leI (by decide) (by omega)]
    rw [c1, c2]
    refine ⟨fun q => ?_, fun q => ⟨fun z => absurd z (by omega), fun _ => ?_⟩⟩
    · have ej : j = n := by omega
      subst ej
      exact h σ g v hl
    · rw [hl.2.1, nI_clamp (by omega)]
      refine ⟨vp_in_nI (by omega) (by decide), fun s1 e1 s2 e2 => ?_⟩
      have k1 : sR σ s1 := by rw [e1]; exact (sR.rf v).i _ (by omega)
      have n73 : s1.1 7 3 = nI (L ++ List.replicate j t).length := by rw [e1, zI1, if_neg (by omega)]; exact hl.2.1
      have k2 : sR σ s2 := by rw [e2]; exact k1.v _ (by omega) (by rw [n73, nI_1, nI_toInt (by omega)]; omega)
      have g2 : gF [15] σ s2 := by rw [e2, e1]; exact (gF.rf.i _ (m15 (by omega))).i _ (m15 (by omega))
      refine ⟨m - 1, by show m - 1 < m; omega, j + 1, by omega, rfl, rfl, nI_1 j, g.trans g2, k2.2, ?_⟩
      have := lcR_add hl (by omega) ht e1 e2
      rw [List.replicate_succ', ← List.append_assoc]
      exact this
  · unfold PX7_addLocals_0
    exact ⟨n, trivial, 0, rfl, rfl, rfl, rfl, gF.rf, hv, by simpa using hL⟩
