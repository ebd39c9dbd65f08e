theorem st_8 {b : Nat → Nat} {e E : Nat} {A : mA} {QX : zS → Prop} (he : e ≤ E) (hA : mE0 8 A) (hB : mBn A) (l : List (Nat × Nat)) (p : Nat) (σ : zS) (K' : zS → Prop) (hs : cSt σ b e p) (hM : MD σ b E (st8 A l) 8) (hlt : ∀ m, (some 1 : Option Nat) = some m → l.length < m) (h16 : l.length < 16000) (h : mW (mP8 b e p) (fun r => ∀ s', sQ σ s' → (∀ u, u = zsI s' 18 8 ((s'.1 18 8) + (1 : Int32)) → cSt u b e r.2 ∧ MD u b E (st8 A (l ++ [r.1])) 8) → K' s') (cEv σ K')) : rsI QX 8 (nI l.length) σ K' := by
  obtain ⟨r1, r2, r3, r4, r5, r6, r7, r8, r9, r10, r11⟩ := hM
  obtain ⟨z1, z2, z3, z4, z5, z6, z7, z8, z9, z10, z11, z12⟩ := id hA
  obtain ⟨b1, b2, b3, b4, b5, b6, b7, b8, b9, b10⟩ := id hB
  have eE : aE A = [] := z9 (by decide)
  have eC : aC A = none := z10 (by decide)
  have eD : aD A = [] := z11 (by decide)
  have eZ : aZ A = [] := z12 (by decide)
  have el : l = [] := List.eq_nil_of_length_eq_zero (by have := hlt 1 rfl; omega)
  subst el
  show zCT zZC zmX6_readStart [.ref 3] σ (zQv K') QX
  unfold mP8 at h
  rw [mW_bind] at h
  refine rd_start hs r1.2.1 r1.1 (mW_mono h (fun x hx h s' g hs' hw => ?_) (fun _ _ _ h2 => h2))
  obtain ⟨r, er⟩ : ∃ r : (Nat × Nat) × Nat, r = ((p, x.1), x.2) := ⟨_, rfl⟩
  have h : ∀ s', sQ σ s' → (∀ u, u = zsI s' 18 8 ((s'.1 18 8) + (1 : Int32)) → cSt u b e r.2 ∧ MD u b E (st8 A ([] ++ [r.1])) 8) → K' s' := by rw [er]; exact h
  have hs' : cSt s' b e r.2 := by rw [er]; exact hs'
  have hw : wr s' ↔ wr σ ∨ staBad (aS A).length (fnL A) (aS A) r.1.2 := by rw [er]; exact hw
  refine h s' (g.q (by decide)) (fun u eu => ?_)
  have g8 := u18 eu
  have gu : gF [0, 7, 8] σ u := (g.mono (by decide)).trans (g8.mono (by decide))
  have hI : itM u (st8 A ([] ++ [r.1])) := (itM_set (A := st8 A []) (A' := st8 A ([] ++ [r.1])) (k := 8) (by decide) eu (itM_g g (by decide) r7) (rfl) (twelve (p := fun j => ¬ j = 8 → nIt (st8 A ([] ++ [r.1])) j = nIt (st8 A []) j) ⟨fun _ => rfl, fun _ => rfl, fun _ => rfl, fun _ => rfl, fun _ => rfl, fun _ => rfl, fun _ => rfl, fun c => absurd rfl c, fun _ => rfl, fun _ => rfl, fun _ => rfl, fun _ => rfl⟩))
  have hN : mBn (st8 A ([] ++ [r.1])) := ⟨b1, b2, b3, b4, b5, b6, b7, b8, b9, b10⟩
  have w6 : wr u ↔ wW b E (st8 A ([] ++ [r.1])) := by
    rw [wr_q (g8.g (k := 7) (by decide)), hw, r6]
    unfold wW
    rw [show wIm (st8 A ([] ++ [r.1])) = wIm (st8 A []) from rfl]
    rw [show wFn (st8 A ([] ++ [r.1])) = wFn (st8 A []) from rfl]
    rw [show wTb (st8 A ([] ++ [r.1])) = wTb (st8 A []) from rfl]
    rw [show wMm (st8 A ([] ++ [r.1])) = wMm (st8 A []) from rfl]
    rw [show wGl b E (st8 A ([] ++ [r.1])) = wGl b E (st8 A []) from rfl]
    rw [show wEx b (st8 A ([] ++ [r.1])) = wEx b (st8 A []) from rfl]
    rw [wSt_n (A := st8 A []) rfl, show wSt (st8 A ([] ++ [r.1])) ↔ staBad (aS A).length (fnL A) (aS A) r.1.2 from ⟨fun ⟨x, hx, hb⟩ => by cases hx; exact hb, fun hb => ⟨r.1, rfl, hb⟩⟩]
    rw [wEl_n (A := (st8 A ([] ++ [r.1]))) eE, wEl_n (A := (st8 A [])) eE]
    rw [wBd_n (A := (st8 A ([] ++ [r.1]))) eD, wBd_n (A := (st8 A [])) eD]
    rw [wDt_n (A := (st8 A ([] ++ [r.1]))) eZ, wDt_n (A := (st8 A [])) eZ]
    simp only [or_false, false_or, or_assoc, or_comm, or_left_comm]
  exact ⟨cSt_18 hs' eu hI hN, mdK_g gu (by decide) (by decide) (by decide) (by decide) (by decide) r1, mdT_g gu (by decide) r2, nmR_q (gu.g (by decide)) r3, ⟨cdR_q (gu.g (by decide)) r4.1, fun j x hx => by have hx : (aD A)[j]? = some x := hx; rw [eD] at hx; cases hx⟩, by rw [(gu.g (k := 11) (by decide) 4 6 rfl).1]; have r5 : σ.1 4 6 = bI (allB (st8 A []) 0 (aD A)) := r5; show σ.1 4 6 = bI (allB (st8 A ([] ++ [r.1])) 0 (aD A)); rw [eD] at r5 ⊢; exact r5, w6, hI, by rw [(gu.g (k := 10) (by decide) 3 5 rfl).1]; exact r8, by rw [(gu.g (k := 14) (by decide) 6 4 rfl).2]; exact r9, hN, ⟨z1, z2, z3, z4, z5, z6, z7, fun c => absurd c (by decide), z9, z10, z11, z12⟩⟩
theorem st_9 {b : Nat → Nat} {e E : Nat} {A : mA} {QX : zS → Prop} (he : e ≤ E) (hA : mE0 9 A) (hB : mBn A) (l : List mElT) (p : Nat) (σ : zS) (K' : zS → Prop) (hs : cSt σ b e p) (hM : MD σ b E (st9 A l) 9) (hlt : ∀ m, (some 32 : Option Nat) = some m → l.length < m) (h16 : l.length < 16000) (h : mW (mEl b e p) (fun r => ∀ s', sQ σ s' → (∀ u, u = zsI s' 18 9 ((s'.1 18 9) + (1 : Int32)) → cSt u b e r.2 ∧ MD u b E (st9 A (l ++ [r.1])) 9) → K' s') (cEv σ K')) : rsI QX 9 (nI l.length) σ K' := by
  obtain ⟨r1, r2, r3, r4, r5, r6, r7, r8, r9, r10, r11⟩ := hM
  obtain ⟨z1, z2, z3, z4, z5, z6, z7, z8, z9, z10, z11, z12⟩ := id hA
  obtain ⟨b1, b2, b3, b4, b5, b6, b7, b8, b9, b10⟩ := id hB
  have eC : aC A = none := z10 (by decide)
  have eD : aD A = [] := z11 (by decide)
  have eZ : aZ A = [] := z12 (by decide)
  have l1 := kI_le (k := 1) (l := aI A)
  have h32 := hlt 32 rfl
  show zCT zZC zmX6_readElement [.ref 3] σ (zQv K') QX
  refine rd_element hs r1.2.1 r1.2.2.2.1 r1.2.2.2.2.1 (by rw [glL_len]; exact Nat.le_add_right _ _) r1.2.2.2.2.2.1 (by show (kI 1 (aI A)).length + (aT A).length < _; omega) (mW_mono h (fun r hr h s' g hs' hw => ?_) (fun _ _ _ h2 => h2))
  rw [elBad_E he hr] at hw
  refine h s' (g.q (by decide)) (fun u eu => ?_)
  have g8 := u18 eu
  have gu : gF [0, 7, 8] σ u := (g.mono (by decide)).trans (g8.mono (by decide))
  have hI : itM u (st9 A (l ++ [r.1])) := (itM_set (A := st9 A l) (A' := st9 A (l ++ [r.1])) (k := 9) (by decide) eu (itM_g g (by decide) r7) (by show (l ++ [r.1]).length = l.length + 1; rw [List.length_append]; rfl) (twelve (p := fun j => ¬ j = 9 → nIt (st9 A (l ++ [r.1])) j = nIt (st9 A l) j) ⟨fun _ => rfl, fun _ => rfl, fun _ => rfl, fun _ => rfl, fun _ => rfl, fun _ => rfl, fun _ => rfl, fun _ => rfl, fun c => absurd rfl c, fun _ => rfl, fun _ => rfl, fun _ => rfl⟩))
  have hN : mBn (st9 A (l ++ [r.1])) := ⟨b1, b2, b3, b4, b5, b6, b7, by show (l ++ [r.1]).length ≤ _; rw [List.length_append]; have := hlt _ rfl; show l.length + 1 ≤ _; omega, b9, b10⟩
  have w6 : wr u ↔ wW b E (st9 A (l ++ [r.1])) := by
    rw [wr_q (g8.g (k := 7) (by decide)), (show wr s' ↔ wr σ ∨ elBad (glL A) (kI 3 (aI A)).length (kTb A) (fnL A).length b E r.1 from hw), r6]
    unfold wW
    rw [show wIm (st9 A (l ++ [r.1])) = wIm (st9 A l) from rfl]
    rw [show wFn (st9 A (l ++ [r.1])) = wFn (st9 A l) from rfl]
    rw [show wTb (st9 A (l ++ [r.1])) = wTb (st9 A l) from rfl]
    rw [show wMm (st9 A (l ++ [r.1])) = wMm (st9 A l) from rfl]
    rw [show wGl b E (st9 A (l ++ [r.1])) = wGl b E (st9 A l) from rfl]
    rw [show wEx b (st9 A (l ++ [r.1])) = wEx b (st9 A l) from rfl]
    rw [show wSt (st9 A (l ++ [r.1])) = wSt (st9 A l) from rfl]
    rw [show wEl b E (st9 A (l ++ [r.1])) ↔ wEl b E (st9 A l) ∨ elBad (glL A) (kI 3 (aI A)).length (kTb A) (fnL A).length b E r.1 from wL_app (p := [])]
    rw [wBd_n (A := (st9 A (l ++ [r.1]))) eD, wBd_n (A := (st9 A l)) eD]
    rw [wDt_n (A := (st9 A (l ++ [r.1]))) eZ, wDt_n (A := (st9 A l)) eZ]
    simp only [or_false, false_or, or_assoc, or_comm, or_left_comm]
  exact ⟨cSt_18 hs' eu hI hN, mdK_g gu (by decide) (by decide) (by decide) (by decide) (by decide) r1, mdT_g gu (by decide) r2, nmR_q (gu.g (by decide)) r3, ⟨cdR_q (gu.g (by decide)) r4.1, fun j x hx => by have hx : (aD A)[j]? = some x := hx; rw [eD] at hx; cases hx⟩, by rw [(gu.g (k := 11) (by decide) 4 6 rfl).1]; have r5 : σ.1 4 6 = bI (allB (st9 A l) 0 (aD A)) := r5; show σ.1 4 6 = bI (allB (st9 A (l ++ [r.1])) 0 (aD A)); rw [eD] at r5 ⊢; exact r5, w6, hI, by rw [(gu.g (k := 10) (by decide) 3 5 rfl).1]; exact r8, by rw [(gu.g (k := 14) (by decide) 6 4 rfl).2]; exact r9, hN, ⟨z1, z2, z3, z4, z5, z6, z7, z8, fun c => absurd c (by decide), z10, z11, z12⟩⟩
theorem st_12 {b : Nat → Nat} {e E : Nat} {A : mA} {QX : zS → Prop} (he : e ≤ E) (hA : mE0 10 A) (hB : mBn A) (l : List Nat) (p : Nat) (σ : zS) (K' : zS → Prop) (hs : cSt σ b e p) (hM : MD σ b E (st12 A l) 10) (hlt : ∀ m, (some 1 : Option Nat) = some m → l.length < m) (h16 : l.length < 16000) (h : mW (mU b e p) (fun r => ∀ s', sQ σ s' → (∀ u, u = zsI s' 18 12 ((s'.1 18 12) + (1 : Int32)) → cSt u b e r.2 ∧ MD u b E (st12 A (l ++ [r.1])) 10) → K' s') (cEv σ K')) : rsI QX 12 (nI l.length) σ K' := by
  obtain ⟨r1, r2, r3, r4, r5, r6, r7, r8, r9, r10, r11⟩ := hM
  obtain ⟨z1, z2, z3, z4, z5, z6, z7, z8, z9, z10, z11, z12⟩ := id hA
  obtain ⟨b1, b2, b3, b4, b5, b6, b7, b8, b9, b10⟩ := id hB
  have eD : aD A = [] := z11 (by decide)
  have eZ : aZ A = [] := z12 (by decide)
  have el : l = [] := List.eq_nil_of_length_eq_zero (by have := hlt 1 rfl; omega)
  subst el
  show zCT zZC zmX4_number [.ref 1] σ (zQl (fun r u => ∀ v : zS, v = zsL u 2 14 r → K' v)) QX
  refine rd_number hs (mW_mono h (fun r hr h s2 k2 hs2 s' es => ?_) (fun k q hq h2 v s2 her q2 s' es => h2 s' (her.keep (by rw [es]; exact (sR.rf her.v).l _ (by omega))) (q2.trans (by rw [es]; exact fun c i _ => rfl))))
  have g : gF [0, 6] σ s' := (k2.g.mono (by decide)).trans (by rw [es]; exact gF.rf.l _ (by decide))
  have k' : sR s2 s' := by rw [es]; exact (sR.rf hs2.v).l _ (by omega)
  have hs' : cSt s' b e r.2 := by
    have g6 : gF [6] s2 s' := by rw [es]; exact gF.rf.l _ (by decide)
    exact g6.st (by decide) (by decide) k'.2 hs2
  refine h s' (g.q (by decide)) (fun u eu => ?_)
  have g8 := u18 eu
  have gu : gF [0, 6, 8] σ u := (g.mono (by decide)).trans (g8.mono (by decide))
  have hI : itM u (st12 A ([] ++ [r.1])) := (itM_set (A := st12 A []) (A' := st12 A ([] ++ [r.1])) (k := 12) (by decide) eu (itM_g g (by decide) r7) (rfl) (twelve (p := fun j => ¬ j = 12 → nIt (st12 A ([] ++ [r.1])) j = nIt (st12 A []) j) ⟨fun _ => rfl, fun _ => rfl, fun _ => rfl, fun _ => rfl, fun _ => rfl, fun _ => rfl, fun _ => rfl, fun _ => rfl, fun _ => rfl, fun _ => rfl, fun _ => rfl, fun c => absurd rfl c⟩))
  have hN : mBn (st12 A ([] ++ [r.1])) := ⟨b1, b2, b3, b4, b5, b6, b7, b8, b9, b10⟩
  have w6 : wr u ↔ wW b E (st12 A ([] ++ [r.1])) := by
    rw [wr_q (g8.g (k := 7) (by decide)), wr_q (g.g (k := 7) (by decide)), r6]
    unfold wW
    rw [show wIm (st12 A ([] ++ [r.1])) = wIm (st12 A []) from rfl]
    rw [show wFn (st12 A ([] ++ [r.1])) = wFn (st12 A []) from rfl]
    rw [show wTb (st12 A ([] ++ [r.1])) = wTb (st12 A []) from rfl]
    rw [show wMm (st12 A ([] ++ [r.1])) = wMm (st12 A []) from rfl]
    rw [show wGl b E (st12 A ([] ++ [r.1])) = wGl b E (st12 A []) from rfl]
    rw [show wEx b (st12 A ([] ++ [r.1])) = wEx b (st12 A []) from rfl]
    rw [show wSt (st12 A ([] ++ [r.1])) = wSt (st12 A []) from rfl]
    rw [show wEl b E (st12 A ([] ++ [r.1])) = wEl b E (st12 A []) from rfl]
    rw [wBd_n (A := (st12 A ([] ++ [r.1]))) eD, wBd_n (A := (st12 A [])) eD]
    rw [wDt_n (A := (st12 A ([] ++ [r.1]))) eZ, wDt_n (A := (st12 A [])) eZ]
  exact ⟨cSt_18 hs' eu hI hN, mdK_g gu (by decide) (by decide) (by decide) (by decide) (by decide) r1, ⟨by rw [(g8.g (k := 6) (by decide) 2 14 rfl).2, es]; exact (show (if 2 = 2 ∧ 14 = 14 then lN r.1 else s2.2 2 14) = lN r.1 from if_pos ⟨rfl, rfl⟩), fun m hm => by cases hm; exact mU_lt hr⟩, nmR_q (gu.g (by decide)) r3, ⟨cdR_q (gu.g (by decide)) r4.1, fun j x hx => by have hx : (aD A)[j]? = some x := hx; rw [eD] at hx; cases hx⟩, by rw [(gu.g (k := 11) (by decide) 4 6 rfl).1]; have r5 : σ.1 4 6 = bI (allB (st12 A []) 0 (aD A)) := r5; show σ.1 4 6 = bI (allB (st12 A ([] ++ [r.1])) 0 (aD A)); rw [eD] at r5 ⊢; exact r5, w6, hI, by rw [(gu.g (k := 10) (by decide) 3 5 rfl).1]; exact r8, by rw [(gu.g (k := 14) (by decide) 6 4 rfl).2]; exact r9, hN, ⟨z1, z2, z3, z4, z5, z6, z7, z8, z9, fun c => absurd c (by decide), z11, z12⟩⟩
theorem st_11 {b : Nat → Nat} {e E : Nat} {A : mA} {QX : zS → Prop} (he : e ≤ E) (hA : mE0 12 A) (hB : mBn A) (l : List mDtT) (p : Nat) (σ : zS) (K' : zS → Prop) (hs : cSt σ b e p) (hM : MD σ b E (st11 A l) 12) (hlt : ∀ m, (some 32 : Option Nat) = some m → l.length < m) (h16 : l.length < 16000) (h : mW (mDt b e p) (fun r => ∀ s', sQ σ s' → (∀ u, u = zsI s' 18 11 ((s'.1 18 11) + (1 : Int32)) → cSt u b e r.2 ∧ MD u b E (st11 A (l ++ [r.1])) 12) → K' s') (cEv σ K')) : rsI QX 11 (nI l.length) σ K' := by
  obtain ⟨r1, r2, r3, r4, r5, r6, r7, r8, r9, r10, r11⟩ := hM
  obtain ⟨z1, z2, z3, z4, z5, z6, z7, z8, z9, z10, z11, z12⟩ := id hA
  obtain ⟨b1, b2, b3, b4, b5, b6, b7, b8, b9, b10⟩ := id hB
  have l2 := kI_le (k := 2) (l := aI A)
  have h32 := hlt 32 rfl
  show zCT zZC zmX6_readData [.ref 3] σ (zQv K') QX
  refine rd_data hs r1.2.2.2.1 r1.2.2.2.2.1 (by rw [glL_len]; exact Nat.le_add_right _ _) r1.2.2.2.2.2.2 (by show (kI 2 (aI A)).length + (aM A).length < _; omega) (mW_mono h (fun r hr h s' g hs' hw => ?_) (fun _ _ _ h2 => h2))
  rw [dtBad_E he hr] at hw
  have eB := bdBad_c (A := st11 A (l ++ [r.1])) (A' := st11 A l) (fun _ => rfl) (fun _ _ => rfl)
  have eA := allB_c (A := st11 A (l ++ [r.1])) (A' := st11 A l) (fun _ _ => rfl)
  refine h s' (g.q (by decide)) (fun u eu => ?_)
  have g8 := u18 eu
  have gu : gF [0, 7, 8] σ u := (g.mono (by decide)).trans (g8.mono (by decide))
  have hI : itM u (st11 A (l ++ [r.1])) := (itM_set (A := st11 A l) (A' := st11 A (l ++ [r.1])) (k := 11) (by decide) eu (itM_g g (by decide) r7) (by show (l ++ [r.1]).length = l.length + 1; rw [List.length_append]; rfl) (twelve (p := fun j => ¬ j = 11 → nIt (st11 A (l ++ [r.1])) j = nIt (st11 A l) j) ⟨fun _ => rfl, fun _ => rfl, fun _ => rfl, fun _ => rfl, fun _ => rfl, fun _ => rfl, fun _ => rfl, fun _ => rfl, fun _ => rfl, fun _ => rfl, fun c => absurd rfl c, fun _ => rfl⟩))
  have hN : mBn (st11 A (l ++ [r.1])) := ⟨b1, b2, b3, b4, b5, b6, b7, b8, b9, by show (l ++ [r.1]).length ≤ _; rw [List.length_append]; have := hlt _ rfl; show l.length + 1 ≤ _; omega⟩
  have w6 : wr u ↔ wW b E (st11 A (l ++ [r.1])) := by
    rw [wr_q (g8.g (k := 7) (by decide)), (show wr s' ↔ wr σ ∨ dtBad (glL A) (kI 3 (aI A)).length (kMm A) b E r.1 from hw), r6]
    unfold wW
    rw [show wIm (st11 A (l ++ [r.1])) = wIm (st11 A l) from rfl]
    rw [show wFn (st11 A (l ++ [r.1])) = wFn (st11 A l) from rfl]
    rw [show wTb (st11 A (l ++ [r.1])) = wTb (st11 A l) from rfl]
    rw [show wMm (st11 A (l ++ [r.1])) = wMm (st11 A l) from rfl]
    rw [show wGl b E (st11 A (l ++ [r.1])) = wGl b E (st11 A l) from rfl]
    rw [show wEx b (st11 A (l ++ [r.1])) = wEx b (st11 A l) from rfl]
    rw [show wSt (st11 A (l ++ [r.1])) = wSt (st11 A l) from rfl]
    rw [show wEl b E (st11 A (l ++ [r.1])) = wEl b E (st11 A l) from rfl]
    rw [show wBd (st11 A (l ++ [r.1])) = wBd (st11 A l) from (by unfold wBd; rw [eB]; rfl)]
    rw [show wDt b E (st11 A (l ++ [r.1])) ↔ wDt b E (st11 A l) ∨ dtBad (glL A) (kI 3 (aI A)).length (kMm A) b E r.1 from wL_app (p := [])]
    simp only [or_false, false_or, or_assoc, or_comm, or_left_comm]
  exact ⟨cSt_18 hs' eu hI hN, mdK_g gu (by decide) (by decide) (by decide) (by decide) (by decide) r1, mdT_g gu (by decide) r2, nmR_q (gu.g (by decide)) r3, cdM_g (A := st11 A l) gu (by decide) r4, by rw [(gu.g (k := 11) (by decide) 4 6 rfl).1, eA]; exact r5, w6, hI, by rw [(gu.g (k := 10) (by decide) 3 5 rfl).1]; exact r8, by rw [(gu.g (k := 14) (by decide) 6 4 rfl).2]; exact r9, hN, ⟨z1, z2, z3, z4, z5, z6, z7, z8, z9, z10, z11, fun c => absurd c (by decide)⟩⟩
