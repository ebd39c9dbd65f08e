theorem st_10 {b : Nat → Nat} {e E : Nat} {A : mA} {QX : zS → Prop} (he : e ≤ E) (hA : mE0 11 A) (hB : mBn A) (l : List mBdT) (p : Nat) (σ : zS) (K' : zS → Prop) (hs : cSt σ b e p) (hM : MD σ b E (st10 A l) 11 ∧ (allC l).length ≤ p) (hlt : ∀ m, (none : Option Nat) = some m → l.length < m) (h16 : l.length < 16000) (h : mW (mBd b e (aC A).isSome p) (fun r => ∀ s', sQ σ s' → (∀ u, u = zsI s' 18 10 ((s'.1 18 10) + (1 : Int32)) → cSt u b e r.2 ∧ MD u b E (st10 A (l ++ [r.1])) 11 ∧ (allC (l ++ [r.1])).length ≤ r.2) → K' s') (cEv σ K')) : rsI QX 10 (nI l.length) σ K' := by
  obtain ⟨⟨r1, r2, r3, r4, r5, r6, r7, r8, r9, r10, r11⟩, hCp⟩ := hM
  obtain ⟨z1, z2, z3, z4, z5, z6, z7, z8, z9, z10, z11, z12⟩ := id hA
  obtain ⟨b1, b2, b3, b4, b5, b6, b7, b8, b9, b10⟩ := id hB
  have eZ : aZ A = [] := z12 (by decide)
  have l0 := kI_le (k := 0) (l := aI A)
  have l1 := kI_le (k := 1) (l := aI A)
  have l2 := kI_le (k := 2) (l := aI A)
  show zCT zZC zmX1_readBody [.ref 4, .int (nI l.length)] σ (zQv K') QX
  obtain ⟨k0, k1⟩ := r9
  have hE : tEB σ (eA (st10 A l)) := ⟨r1.2.1, r1.1, r1.2.2.2.1, ⟨r1.2.2.2.2.2.1, by show (kI 1 (aI A)).length + (aT A).length < _; omega⟩, ⟨r1.2.2.2.2.2.2, by show (kI 2 (aI A)).length + (aM A).length < _; omega⟩, ⟨r7 9 (by decide) (by decide), by show (aE A).length < _; omega⟩, ⟨r2.1, r2.2⟩, r7 1 (by decide) (by decide)⟩
  refine rd_readBody (C := allC l) (E := eA (st10 A l)) (fl := allB (st10 A l) 0 l) hs (by omega) hE r1.2.2.1 (by show (kI 0 (aI A)).length < _; omega) hCp r4.1 k1 r5 (mW_mono h (fun r hr h s' hP => ?_) (fun _ _ _ h2 => h2))
  obtain ⟨g, hs', hCe, hcd, h29, h64, hfl, hw⟩ := hP
  have eAB := allB_c (A := st10 A (l ++ [r.1])) (A' := st10 A l) (fun _ _ => rfl)
  have eBB := bdBad_c (A := st10 A (l ++ [r.1])) (A' := st10 A l) (fun _ => rfl) (fun _ _ => rfl)
  -- what the typing of this body gives
  have hbd : (cFold (bdE (eA (st10 A l)) ((kI 0 (aI A)).length + l.length) r.1) r.1.2.2.2.2 (bdH (eA (st10 A l)) (allB (st10 A l) 0 l) ((kI 0 (aI A)).length + l.length))).1 = (allB (st10 A l) 0 l && (bdS (st10 A l) l.length && bdR (st10 A l) l.length r.1)) ∧ (((bdH (eA (st10 A l)) (allB (st10 A l) 0 l) ((kI 0 (aI A)).length + l.length)).1 = true ∧ (cFold (bdE (eA (st10 A l)) ((kI 0 (aI A)).length + l.length) r.1) r.1.2.2.2.2 (bdH (eA (st10 A l)) (allB (st10 A l) 0 l) ((kI 0 (aI A)).length + l.length))).1 = false) ↔ bdBad (st10 A l) l r.1) := by
    have eR : bdR (st10 A l) l.length r.1 = (cFold (bdE (eA (st10 A l)) ((kI 0 (aI A)).length + l.length) r.1) r.1.2.2.2.2 (true, bdT (bdG (eA (st10 A l)) ((kI 0 (aI A)).length + l.length)).2)).1 := rfl
    have eS : bdS (st10 A l) l.length = (bdSg (eA (st10 A l)) ((kI 0 (aI A)).length + l.length)).isSome := rfl
    have eH : bdH (eA (st10 A l)) (allB (st10 A l) 0 l) ((kI 0 (aI A)).length + l.length) = (allB (st10 A l) 0 l && bdS (st10 A l) l.length, bdT (bdG (eA (st10 A l)) ((kI 0 (aI A)).length + l.length)).2) := rfl
    unfold bdBad
    rw [eH, eR]
    cases ha : allB (st10 A l) 0 l with
    | false =>
      rw [Bool.false_and, cFold_off rfl, Bool.false_and]
      exact ⟨rfl, ⟨fun z => (by cases z.1), fun z => (by cases z.1)⟩⟩
    | true =>
      cases hb : bdS (st10 A l) l.length with
      | false =>
        rw [Bool.and_false, cFold_off rfl]
        exact ⟨rfl, ⟨fun z => (by cases z.1), fun z => (by cases z.2.1)⟩⟩
      | true => exact ⟨by rw [Bool.true_and, Bool.true_and]; rfl, ⟨fun z => ⟨rfl, rfl, z.2⟩, fun z => ⟨rfl, z.2.2⟩⟩⟩
  rw [show (kI 0 (aI (st10 A l))).length = (kI 0 (aI A)).length from rfl] at hfl hw h29
  rw [hbd.1] at hfl
  rw [hbd.2] at hw
  refine h s' (g.q (by decide)) (fun u eu => ?_)
  have g8 := u18 eu
  have gu : gF [0, 7, 8, 11, 12, 13, 14, 15] σ u := (g.mono (by decide)).trans (g8.mono (by decide))
  have hI : itM u (st10 A (l ++ [r.1])) := (itM_set (A := st10 A l) (A' := st10 A (l ++ [r.1])) (k := 10) (by decide) eu (itM_g g (by decide) r7) (by show (l ++ [r.1]).length = l.length + 1; rw [List.length_append]; rfl) (twelve (p := fun j => ¬ j = 10 → nIt (st10 A (l ++ [r.1])) j = nIt (st10 A l) j) ⟨fun _ => rfl, fun _ => rfl, fun _ => rfl, fun _ => rfl, fun _ => rfl, fun _ => rfl, fun _ => rfl, fun _ => rfl, fun _ => rfl, fun c => absurd rfl c, fun _ => rfl, fun _ => rfl⟩))
  have hN : mBn (st10 A (l ++ [r.1])) := ⟨b1, b2, b3, b4, b5, b6, b7, b8, by show (l ++ [r.1]).length ≤ _; rw [List.length_append]; show l.length + 1 ≤ _; omega, b10⟩
  have w6 : wr u ↔ wW b E (st10 A (l ++ [r.1])) := by
    rw [wr_q (g8.g (k := 7) (by decide)), hw, r6]
    unfold wW
    rw [show wIm (st10 A (l ++ [r.1])) = wIm (st10 A l) from rfl]
    rw [show wFn (st10 A (l ++ [r.1])) = wFn (st10 A l) from rfl]
    rw [show wTb (st10 A (l ++ [r.1])) = wTb (st10 A l) from rfl]
    rw [show wMm (st10 A (l ++ [r.1])) = wMm (st10 A l) from rfl]
    rw [show wGl b E (st10 A (l ++ [r.1])) = wGl b E (st10 A l) from rfl]
    rw [show wEx b (st10 A (l ++ [r.1])) = wEx b (st10 A l) from rfl]
    rw [show wSt (st10 A (l ++ [r.1])) = wSt (st10 A l) from rfl]
    rw [show wEl b E (st10 A (l ++ [r.1])) = wEl b E (st10 A l) from rfl]
    rw [show wBd (st10 A (l ++ [r.1])) ↔ wBd (st10 A l) ∨ bdBad (st10 A l) l r.1 from (by unfold wBd; rw [eBB]; exact wL_app (p := []))]
    rw [wDt_n (A := (st10 A (l ++ [r.1]))) eZ, wDt_n (A := (st10 A l)) eZ]
    simp only [or_false, false_or, or_assoc, or_comm, or_left_comm]
  have hrows : ∀ j x, (l ++ [r.1])[j]? = some x → j < 64 → u.1 29 j = nI (allC ((l ++ [r.1]).take j)).length ∧ u.1 30 j = nI (cds x.2.2.2.2).length ∧ u.1 31 j = nI (bdL (bdG (eA (st10 A (l ++ [r.1]))) (bNo (st10 A (l ++ [r.1])) j)) x).length := fun j x hx hj => by
    rw [(g8.g (k := 12) (by decide) 29 j rfl).1, (g8.g (k := 12) (by decide) 30 j rfl).1, (g8.g (k := 12) (by decide) 31 j rfl).1, (h29 j hj).1, (h29 j hj).2.1, (h29 j hj).2.2]
    by_cases q : j = l.length
    · rw [if_pos q, if_pos q, if_pos q]
      rw [q, List.getElem?_append_right (Nat.le_refl _), Nat.sub_self] at hx
      cases hx
      rw [q, List.take_left' rfl]
      exact ⟨rfl, rfl, rfl⟩
    · rw [if_neg q, if_neg q, if_neg q]
      have hjl : j < l.length := by
        have := (List.getElem?_eq_some_iff.1 hx).1
        rw [List.length_append] at this
        have : j < l.length + 1 := this
        omega
      rw [List.getElem?_append_left hjl] at hx
      rw [List.take_append_of_le_length (by omega)]
      exact r4.2 j x hx hj
  have hCl : (allC (l ++ [r.1])).length ≤ r.2 := by rw [allC_app, List.length_append, cds_len]; exact hCe
  refine ⟨cSt_18 hs' eu hI hN, ⟨mdK_g gu (by decide) (by decide) (by decide) (by decide) (by decide) r1, mdT_g gu (by decide) r2, nmR_q (gu.g (by decide)) r3, ⟨by show cdR u (allC (l ++ [r.1])); rw [allC_app]; exact cdR_q (g8.g (by decide)) hcd, hrows⟩, by rw [(g8.g (k := 11) (by decide) 4 6 rfl).1, hfl]; show _ = bI (allB (st10 A (l ++ [r.1])) 0 (l ++ [r.1])); rw [eAB, allB_app, Nat.zero_add], w6, hI, by rw [(gu.g (k := 10) (by decide) 3 5 rfl).1]; exact r8, by obtain ⟨j, j1⟩ := h64; exact ⟨j, by rw [(g8.g (k := 14) (by decide) 6 4 rfl).2]; exact j1⟩, hN, ⟨z1, z2, z3, z4, z5, z6, z7, z8, z9, z10, fun c => absurd c (by decide), z12⟩⟩, hCl⟩
