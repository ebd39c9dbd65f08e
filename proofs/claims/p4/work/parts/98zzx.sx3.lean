/-! what the sections' items have in common -/
theorem u18 {s u : zS} {k : Nat} {v : Int32} (e : u = zsI s 18 k v) : gF [8] s u := by rw [e]; exact gF.rf.i _ (List.mem_singleton.2 rfl)
theorem cSt_18 {s u : zS} {b : Nat → Nat} {e a k : Nat} {v : Int32} {A : mA} (hs : cSt s b e a) (eu : u = zsI s 18 k v) (hI : itM u A) (hB : mBn A) : cSt u b e a := by
  refine (u18 eu).st (by decide) (by decide) ?_ hs
  obtain ⟨v1, v2, v3, v4, v5, v6, v7, v8⟩ := hs.v
  obtain ⟨b1, b2, b3, b4, b5, b6, b7, b8, b9, b10⟩ := hB
  have i1 : u.1 18 1 = nI (aS A).length := hI 1 (by decide) (by decide)
  have i7 : u.1 18 7 = nI (aX A).length := hI 7 (by decide) (by decide)
  refine ⟨?_, ?_, ?_, ?_, by rw [i1, nI_toInt (by omega)]; omega, by rw [i7, nI_toInt (by omega)]; omega, ?_, fun i => ?_⟩
  · rw [eu, zI1, if_neg (by omega)]; exact v1
  · rw [eu, zI1, if_neg (by omega)]; exact v2
  · rw [eu, zI1, if_neg (by omega)]; exact v3
  · rw [eu, zI1, if_neg (by omega)]; exact v4
  · rw [eu, zI1, if_neg (by omega)]; exact v7
  · rw [eu, zI1, if_neg (by omega)]; exact v8 i
theorem itM_set {s u : zS} {A A' : mA} {k : Nat} (hk : 1 ≤ k ∧ k ≤ 12) (e : u = zsI s 18 k ((s.1 18 k) + (1 : Int32))) (r : itM s A) (h1 : nIt A' k = nIt A k + 1) (h2 : ∀ j, 1 ≤ j → j ≤ 12 → ¬ j = k → nIt A' j = nIt A j) : itM u A' := fun j a1 a2 => by
  rw [e, zI1]
  by_cases q : j = k
  · rw [if_pos ⟨rfl, q⟩, r k hk.1 hk.2, nI_1, q, h1]
  · rw [if_neg (fun z => q z.2), r j a1 a2, h2 j a1 a2 q]
theorem twelve {p : Nat → Prop} (h : p 1 ∧ p 2 ∧ p 3 ∧ p 4 ∧ p 5 ∧ p 6 ∧ p 7 ∧ p 8 ∧ p 9 ∧ p 10 ∧ p 11 ∧ p 12) : ∀ j, 1 ≤ j → j ≤ 12 → p j := fun j a1 a2 => by
  obtain ⟨h1, h2, h3, h4, h5, h6, h7, h8, h9, h10, h11, h12⟩ := h
  have q : j = 1 ∨ j = 2 ∨ j = 3 ∨ j = 4 ∨ j = 5 ∨ j = 6 ∨ j = 7 ∨ j = 8 ∨ j = 9 ∨ j = 10 ∨ j = 11 ∨ j = 12 := by omega
  rcases q with rfl | rfl | rfl | rfl | rfl | rfl | rfl | rfl | rfl | rfl | rfl | rfl
  · exact h1
  · exact h2
  · exact h3
  · exact h4
  · exact h5
  · exact h6
  · exact h7
  · exact h8
  · exact h9
  · exact h10
  · exact h11
  · exact h12
theorem wIm_n {A : mA} (h : aI A = []) : wIm A ↔ False := by unfold wIm; rw [h]; exact Iff.rfl
theorem wFn_n {A : mA} (h : aF A = []) : wFn A ↔ False := by unfold wFn; rw [h]; exact Iff.rfl
theorem wTb_n {A : mA} (h : aT A = []) : wTb A ↔ False := by unfold wTb; rw [h]; exact Iff.rfl
theorem wMm_n {A : mA} (h : aM A = []) : wMm A ↔ False := by unfold wMm; rw [h]; exact Iff.rfl
theorem wGl_n {b : Nat → Nat} {E : Nat} {A : mA} (h : aG A = []) : wGl b E A ↔ False := by unfold wGl; rw [h]; exact Iff.rfl
theorem wEx_n {b : Nat → Nat} {A : mA} (h : aX A = []) : wEx b A ↔ False := by unfold wEx; rw [h]; exact Iff.rfl
theorem wSt_n {A : mA} (h : aB A = none) : wSt A ↔ False := iff_false_intro (fun z => by obtain ⟨x, h1, _⟩ := z; rw [h] at h1; cases h1)
theorem wEl_n {b : Nat → Nat} {E : Nat} {A : mA} (h : aE A = []) : wEl b E A ↔ False := by unfold wEl; rw [h]; exact Iff.rfl
theorem wBd_n {A : mA} (h : aD A = []) : wBd A ↔ False := by unfold wBd; rw [h]; exact Iff.rfl
theorem wDt_n {b : Nat → Nat} {E : Nat} {A : mA} (h : aZ A = []) : wDt b E A ↔ False := by unfold wDt; rw [h]; exact Iff.rfl
theorem allB_c {A A' : mA} (h : ∀ i x, (bdS A i && bdR A i x) = (bdS A' i && bdR A' i x)) : ∀ (l : List mBdT) (i : Nat), allB A i l = allB A' i l := by
  intro l
  induction l with
  | nil => intro i; rfl
  | cons x r ih =>
    intro i
    show ((bdS A i && bdR A i x) && allB A (i + 1) r) = ((bdS A' i && bdR A' i x) && allB A' (i + 1) r)
    rw [h, ih]
theorem bdBad_c {A A' : mA} (hS : ∀ i, bdS A i = bdS A' i) (hR : ∀ i x, bdR A i x = bdR A' i x) : bdBad A = bdBad A' := funext fun p => funext fun x => by
  unfold bdBad
  rw [allB_c (A := A) (A' := A') (fun i x => by rw [hS, hR]) p 0, hS, hR]
theorem glL_len {A : mA} : (glL A).length = (kI 3 (aI A)).length + (aG A).length := by
  unfold glL gIl gOl
  rw [List.length_append, List.length_map, List.length_map]
theorem fnL_len {A : mA} : (fnL A).length = (kI 0 (aI A)).length + (aF A).length := by
  unfold fnL
  rw [List.length_append, List.length_map, List.length_map]
theorem kCst_E {b : Nat → Nat} {e E c ty m r : Nat} {G : List (Nat × Nat)} (he : e ≤ E) (h : mConst b e c = .ok r) : kCst G m b e c ty ↔ kCst G m b E c ty := by
  unfold kCst
  by_cases q : b c = 35
  · rw [if_pos q, if_pos q]
    have hu : ∃ u, mU b e (c + 1) = .ok u := by
      unfold mConst at h
      cases hk : mOct b e c with
      | error z => rw [hk] at h; cases h
      | ok k =>
        obtain ⟨h1, rfl⟩ := mOct_in hk
        rw [hk] at h
        cases hu : mU b e (c + 1) with
        | ok u => exact ⟨u, rfl⟩
        | error z =>
          exfalso
          revert h
          simp [Except.bind, q, hu]
    obtain ⟨u, hu⟩ := hu
    rw [hu, mU_mono he _ hu]
  · rw [if_neg q, if_neg q]
