theorem st_4 {b : Nat → Nat} {e E : Nat} {A : mA} {QX : zS → Prop} (he : e ≤ E) (hA : mE0 4 A) (hB : mBn A) (l : List mTabT) (p : Nat) (σ : zS) (K' : zS → Prop) (hs : cSt σ b e p) (hM : MD σ b E (st4 A l) 4) (hlt : ∀ m, (none : Option Nat) = some m → l.length < m) (h16 : l.length < 16000) (h : mW (mTab b e true p) (fun r => ∀ s', sQ σ s' → (∀ u, u = zsI s' 18 4 ((s'.1 18 4) + (1 : Int32)) → cSt u b e r.2 ∧ MD u b E (st4 A (l ++ [r.1])) 4) → K' s') (cEv σ K')) : rsI QX 4 (nI l.length) σ K' := by
  obtain ⟨r1, r2, r3, r4, r5, r6, r7, r8, r9, r10, r11⟩ := hM
  obtain ⟨z1, z2, z3, z4, z5, z6, z7, z8, z9, z10, z11, z12⟩ := id hA
  obtain ⟨b1, b2, b3, b4, b5, b6, b7, b8, b9, b10⟩ := id hB
  have eM : aM A = [] := z5 (by decide)
  have eG : aG A = [] := z6 (by decide)
  have eX : aX A = [] := z7 (by decide)
  have eB : aB A = none := z8 (by decide)
  have eE : aE A = [] := z9 (by decide)
  have eC : aC A = none := z10 (by decide)
  have eD : aD A = [] := z11 (by decide)
  have eZ : aZ A = [] := z12 (by decide)
  show zCT zZC zmX6_readTable [.ref 3] σ (zQv K') QX
  have l1 := kI_le (k := 1) (l := aI A)
  have ec : ∀ l, kTb (st4 A l) = (kI 1 (aI A)).length + l.length := fun l => rfl
  refine rd_table hs r1.2.2.2.2.2.1 (by rw [ec]; omega) (mW_mono h (fun r hr h s' g hs' hn hw => ?_) (fun _ _ _ h2 => h2))
  rw [ec] at hw
  refine h s' (g.q (by decide)) (fun u eu => ?_)
  have g8 := u18 eu
  have gu : gF [0, 4, 7, 8] σ u := (g.mono (by decide)).trans (g8.mono (by decide))
  have hI : itM u (st4 A (l ++ [r.1])) := (itM_set (A := st4 A l) (A' := st4 A (l ++ [r.1])) (k := 4) (by decide) eu (itM_g g (by decide) r7) (by show (l ++ [r.1]).length = l.length + 1; rw [List.length_append]; rfl) (twelve (p := fun j => ¬ j = 4 → nIt (st4 A (l ++ [r.1])) j = nIt (st4 A l) j) ⟨fun _ => rfl, fun _ => rfl, fun _ => rfl, fun c => absurd rfl c, fun _ => rfl, fun _ => rfl, fun _ => rfl, fun _ => rfl, fun _ => rfl, fun _ => rfl, fun _ => rfl, fun _ => rfl⟩))
  have hN : mBn (st4 A (l ++ [r.1])) := ⟨b1, b2, b3, by show (l ++ [r.1]).length ≤ _; rw [List.length_append]; show l.length + 1 ≤ _; omega, b5, b6, b7, b8, b9, b10⟩
  have w6 : wr u ↔ wW b E (st4 A (l ++ [r.1])) := by
    rw [wr_q (g8.g (k := 7) (by decide)), hw, r6]
    unfold wW
    rw [show wIm (st4 A (l ++ [r.1])) = wIm (st4 A l) from rfl]
    rw [show wFn (st4 A (l ++ [r.1])) = wFn (st4 A l) from rfl]
    rw [show wTb (st4 A (l ++ [r.1])) ↔ wTb (st4 A l) ∨ (1 < (kI 1 (aI A)).length + l.length + 1 ∨ ¬ mRight true r.1.2.2.1 r.1.2.2.2 = true) from wL_app (p := [])]
    rw [wMm_n (A := (st4 A (l ++ [r.1]))) eM, wMm_n (A := (st4 A l)) eM]
    rw [wGl_n (A := (st4 A (l ++ [r.1]))) eG, wGl_n (A := (st4 A l)) eG]
    rw [wEx_n (A := (st4 A (l ++ [r.1]))) eX, wEx_n (A := (st4 A l)) eX]
    rw [wSt_n (A := (st4 A (l ++ [r.1]))) eB, wSt_n (A := (st4 A l)) eB]
    rw [wEl_n (A := (st4 A (l ++ [r.1]))) eE, wEl_n (A := (st4 A l)) eE]
    rw [wBd_n (A := (st4 A (l ++ [r.1]))) eD, wBd_n (A := (st4 A l)) eD]
    rw [wDt_n (A := (st4 A (l ++ [r.1]))) eZ, wDt_n (A := (st4 A l)) eZ]
    simp only [or_false, false_or, or_assoc, or_comm, or_left_comm]
  exact ⟨cSt_18 hs' eu hI hN, ⟨sgR_q (gu.g (by decide)) r1.1, fnR_q (gu.g (by decide)) r1.2.1, by rw [(gu.g (k := 2) (by decide) 2 9 rfl).1]; exact r1.2.2.1, glR_q (gu.g (by decide)) r1.2.2.2.1, by rw [(gu.g (k := 3) (by decide) 2 13 rfl).1]; exact r1.2.2.2.2.1, by rw [(g8.g (k := 4) (by decide) 2 10 rfl).1, hn, ec, ec, List.length_append]; rfl, by rw [(gu.g (k := 5) (by decide) 2 11 rfl).1]; exact r1.2.2.2.2.2.2⟩, mdT_g gu (by decide) r2, nmR_q (gu.g (by decide)) r3, ⟨cdR_q (gu.g (by decide)) r4.1, fun j x hx => by have hx : (aD A)[j]? = some x := hx; rw [eD] at hx; cases hx⟩, by rw [(gu.g (k := 11) (by decide) 4 6 rfl).1]; have r5 : σ.1 4 6 = bI (allB (st4 A l) 0 (aD A)) := r5; show σ.1 4 6 = bI (allB (st4 A (l ++ [r.1])) 0 (aD A)); rw [eD] at r5 ⊢; exact r5, w6, hI, by rw [(gu.g (k := 10) (by decide) 3 5 rfl).1]; exact r8, by rw [(gu.g (k := 14) (by decide) 6 4 rfl).2]; exact r9, hN, ⟨z1, z2, z3, fun c => absurd c (by decide), z5, z6, z7, z8, z9, z10, z11, z12⟩⟩
theorem st_5 {b : Nat → Nat} {e E : Nat} {A : mA} {QX : zS → Prop} (he : e ≤ E) (hA : mE0 5 A) (hB : mBn A) (l : List mTabT) (p : Nat) (σ : zS) (K' : zS → Prop) (hs : cSt σ b e p) (hM : MD σ b E (st5 A l) 5) (hlt : ∀ m, (none : Option Nat) = some m → l.length < m) (h16 : l.length < 16000) (h : mW (mTab b e false p) (fun r => ∀ s', sQ σ s' → (∀ u, u = zsI s' 18 5 ((s'.1 18 5) + (1 : Int32)) → cSt u b e r.2 ∧ MD u b E (st5 A (l ++ [r.1])) 5) → K' s') (cEv σ K')) : rsI QX 5 (nI l.length) σ K' := by
  obtain ⟨r1, r2, r3, r4, r5, r6, r7, r8, r9, r10, r11⟩ := hM
  obtain ⟨z1, z2, z3, z4, z5, z6, z7, z8, z9, z10, z11, z12⟩ := id hA
  obtain ⟨b1, b2, b3, b4, b5, b6, b7, b8, b9, b10⟩ := id hB
  have eG : aG A = [] := z6 (by decide)
  have eX : aX A = [] := z7 (by decide)
  have eB : aB A = none := z8 (by decide)
  have eE : aE A = [] := z9 (by decide)
  have eC : aC A = none := z10 (by decide)
  have eD : aD A = [] := z11 (by decide)
  have eZ : aZ A = [] := z12 (by decide)
  show zCT zZC zmX6_readMemory [.ref 3] σ (zQv K') QX
  have l1 := kI_le (k := 2) (l := aI A)
  have ec : ∀ l, kMm (st5 A l) = (kI 2 (aI A)).length + l.length := fun l => rfl
  refine rd_memory hs r1.2.2.2.2.2.2 (by rw [ec]; omega) (mW_mono h (fun r hr h s' g hs' hn hw => ?_) (fun _ _ _ h2 => h2))
  rw [ec] at hw
  refine h s' (g.q (by decide)) (fun u eu => ?_)
  have g8 := u18 eu
  have gu : gF [0, 5, 7, 8] σ u := (g.mono (by decide)).trans (g8.mono (by decide))
  have hI : itM u (st5 A (l ++ [r.1])) := (itM_set (A := st5 A l) (A' := st5 A (l ++ [r.1])) (k := 5) (by decide) eu (itM_g g (by decide) r7) (by show (l ++ [r.1]).length = l.length + 1; rw [List.length_append]; rfl) (twelve (p := fun j => ¬ j = 5 → nIt (st5 A (l ++ [r.1])) j = nIt (st5 A l) j) ⟨fun _ => rfl, fun _ => rfl, fun _ => rfl, fun _ => rfl, fun c => absurd rfl c, fun _ => rfl, fun _ => rfl, fun _ => rfl, fun _ => rfl, fun _ => rfl, fun _ => rfl, fun _ => rfl⟩))
  have hN : mBn (st5 A (l ++ [r.1])) := ⟨b1, b2, b3, b4, by show (l ++ [r.1]).length ≤ _; rw [List.length_append]; show l.length + 1 ≤ _; omega, b6, b7, b8, b9, b10⟩
  have w6 : wr u ↔ wW b E (st5 A (l ++ [r.1])) := by
    rw [wr_q (g8.g (k := 7) (by decide)), hw, r6]
    unfold wW
    rw [show wIm (st5 A (l ++ [r.1])) = wIm (st5 A l) from rfl]
    rw [show wFn (st5 A (l ++ [r.1])) = wFn (st5 A l) from rfl]
    rw [show wTb (st5 A (l ++ [r.1])) = wTb (st5 A l) from rfl]
    rw [show wMm (st5 A (l ++ [r.1])) ↔ wMm (st5 A l) ∨ (1 < (kI 2 (aI A)).length + l.length + 1 ∨ ¬ mRight false r.1.2.2.1 r.1.2.2.2 = true) from wL_app (p := [])]
    rw [wGl_n (A := (st5 A (l ++ [r.1]))) eG, wGl_n (A := (st5 A l)) eG]
    rw [wEx_n (A := (st5 A (l ++ [r.1]))) eX, wEx_n (A := (st5 A l)) eX]
    rw [wSt_n (A := (st5 A (l ++ [r.1]))) eB, wSt_n (A := (st5 A l)) eB]
    rw [wEl_n (A := (st5 A (l ++ [r.1]))) eE, wEl_n (A := (st5 A l)) eE]
    rw [wBd_n (A := (st5 A (l ++ [r.1]))) eD, wBd_n (A := (st5 A l)) eD]
    rw [wDt_n (A := (st5 A (l ++ [r.1]))) eZ, wDt_n (A := (st5 A l)) eZ]
    simp only [or_false, false_or, or_assoc, or_comm, or_left_comm]
  exact ⟨cSt_18 hs' eu hI hN, ⟨sgR_q (gu.g (by decide)) r1.1, fnR_q (gu.g (by decide)) r1.2.1, by rw [(gu.g (k := 2) (by decide) 2 9 rfl).1]; exact r1.2.2.1, glR_q (gu.g (by decide)) r1.2.2.2.1, by rw [(gu.g (k := 3) (by decide) 2 13 rfl).1]; exact r1.2.2.2.2.1, by rw [(gu.g (k := 4) (by decide) 2 10 rfl).1]; exact r1.2.2.2.2.2.1, by rw [(g8.g (k := 5) (by decide) 2 11 rfl).1, hn, ec, ec, List.length_append]; rfl⟩, mdT_g gu (by decide) r2, nmR_q (gu.g (by decide)) r3, ⟨cdR_q (gu.g (by decide)) r4.1, fun j x hx => by have hx : (aD A)[j]? = some x := hx; rw [eD] at hx; cases hx⟩, by rw [(gu.g (k := 11) (by decide) 4 6 rfl).1]; have r5 : σ.1 4 6 = bI (allB (st5 A l) 0 (aD A)) := r5; show σ.1 4 6 = bI (allB (st5 A (l ++ [r.1])) 0 (aD A)); rw [eD] at r5 ⊢; exact r5, w6, hI, by rw [(gu.g (k := 10) (by decide) 3 5 rfl).1]; exact r8, by rw [(gu.g (k := 14) (by decide) 6 4 rfl).2]; exact r9, hN, ⟨z1, z2, z3, z4, fun c => absurd c (by decide), z6, z7, z8, z9, z10, z11, z12⟩⟩
theorem st_6 {b : Nat → Nat} {e E : Nat} {A : mA} {QX : zS → Prop} (he : e ≤ E) (hA : mE0 6 A) (hB : mBn A) (l : List mGlT) (p : Nat) (σ : zS) (K' : zS → Prop) (hs : cSt σ b e p) (hM : MD σ b E (st6 A l) 6) (hlt : ∀ m, (some 32 : Option Nat) = some m → l.length < m) (h16 : l.length < 16000) (h : mW (mGl b e p) (fun r => ∀ s', sQ σ s' → (∀ u, u = zsI s' 18 6 ((s'.1 18 6) + (1 : Int32)) → cSt u b e r.2 ∧ MD u b E (st6 A (l ++ [r.1])) 6) → K' s') (cEv σ K')) : rsI QX 6 (nI l.length) σ K' := by
  obtain ⟨r1, r2, r3, r4, r5, r6, r7, r8, r9, r10, r11⟩ := hM
  obtain ⟨z1, z2, z3, z4, z5, z6, z7, z8, z9, z10, z11, z12⟩ := id hA
  obtain ⟨b1, b2, b3, b4, b5, b6, b7, b8, b9, b10⟩ := id hB
  have eX : aX A = [] := z7 (by decide)
  have eB : aB A = none := z8 (by decide)
  have eE : aE A = [] := z9 (by decide)
  have eC : aC A = none := z10 (by decide)
  have eD : aD A = [] := z11 (by decide)
  have eZ : aZ A = [] := z12 (by decide)
  show zCT zZC zmX6_readGlobal [.ref 3] σ (zQv K') QX
  have l3 := kI_le (k := 3) (l := aI A)
  have h32 := hlt 32 rfl
  have eg : ∀ l, (glL (st6 A l)).length = (kI 3 (aI A)).length + l.length := fun l => glL_len
  refine rd_global hs r1.2.2.2.1 r1.2.2.2.2.1 (by rw [eg]; exact Nat.le_add_right _ _) (by rw [eg]; omega) (mW_mono h (fun r hr h s' g hs' hG hm hw => ?_) (fun _ _ _ h2 => h2))
  have eG2 : glL (st6 A (l ++ [r.1])) = glL (st6 A l) ++ [(r.1.1, r.1.2.1)] := by show gIl (aI A) ++ gOl (l ++ [r.1]) = (gIl (aI A) ++ gOl l) ++ [_]; unfold gOl; rw [List.map_append, List.append_assoc]; rfl
  obtain ⟨cq, hcq⟩ := mGl_c (x := r.1) (r := r.2) hr
  rw [kCst_E he hcq] at hw
  refine h s' (g.q (by decide)) (fun u eu => ?_)
  have g8 := u18 eu
  have gu : gF [0, 3, 7, 8] σ u := (g.mono (by decide)).trans (g8.mono (by decide))
  have hI : itM u (st6 A (l ++ [r.1])) := (itM_set (A := st6 A l) (A' := st6 A (l ++ [r.1])) (k := 6) (by decide) eu (itM_g g (by decide) r7) (by show (l ++ [r.1]).length = l.length + 1; rw [List.length_append]; rfl) (twelve (p := fun j => ¬ j = 6 → nIt (st6 A (l ++ [r.1])) j = nIt (st6 A l) j) ⟨fun _ => rfl, fun _ => rfl, fun _ => rfl, fun _ => rfl, fun _ => rfl, fun c => absurd rfl c, fun _ => rfl, fun _ => rfl, fun _ => rfl, fun _ => rfl, fun _ => rfl, fun _ => rfl⟩))
  have hN : mBn (st6 A (l ++ [r.1])) := ⟨b1, b2, b3, b4, b5, by show (l ++ [r.1]).length ≤ _; rw [List.length_append]; have := hlt _ rfl; show l.length + 1 ≤ _; omega, b7, b8, b9, b10⟩
  have w6 : wr u ↔ wW b E (st6 A (l ++ [r.1])) := by
    rw [wr_q (g8.g (k := 7) (by decide)), hw, r6, show glL (st6 A l) = gIl (aI A) ++ gOl l from rfl, show (kI 3 (aI (st6 A l))).length = (kI 3 (aI A)).length from rfl]
    unfold wW
    rw [show wIm (st6 A (l ++ [r.1])) = wIm (st6 A l) from rfl]
    rw [show wFn (st6 A (l ++ [r.1])) = wFn (st6 A l) from rfl]
    rw [show wTb (st6 A (l ++ [r.1])) = wTb (st6 A l) from rfl]
    rw [show wMm (st6 A (l ++ [r.1])) = wMm (st6 A l) from rfl]
    rw [show wGl b E (st6 A (l ++ [r.1])) ↔ wGl b E (st6 A l) ∨ ¬ kCst (gIl (aI A) ++ gOl l) (kI 3 (aI A)).length b E r.1.2.2 r.1.1 from wL_app (p := [])]
    rw [wEx_n (A := (st6 A (l ++ [r.1]))) eX, wEx_n (A := (st6 A l)) eX]
    rw [wSt_n (A := (st6 A (l ++ [r.1]))) eB, wSt_n (A := (st6 A l)) eB]
    rw [wEl_n (A := (st6 A (l ++ [r.1]))) eE, wEl_n (A := (st6 A l)) eE]
    rw [wBd_n (A := (st6 A (l ++ [r.1]))) eD, wBd_n (A := (st6 A l)) eD]
    rw [wDt_n (A := (st6 A (l ++ [r.1]))) eZ, wDt_n (A := (st6 A l)) eZ]
    simp only [or_false, false_or, or_assoc, or_comm, or_left_comm]
  exact ⟨cSt_18 hs' eu hI hN, ⟨sgR_q (gu.g (by decide)) r1.1, fnR_q (gu.g (by decide)) r1.2.1, by rw [(gu.g (k := 2) (by decide) 2 9 rfl).1]; exact r1.2.2.1, by rw [eG2]; exact glR_q (g8.g (by decide)) hG, by rw [(g8.g (k := 3) (by decide) 2 13 rfl).1]; exact hm, by rw [(gu.g (k := 4) (by decide) 2 10 rfl).1]; exact r1.2.2.2.2.2.1, by rw [(gu.g (k := 5) (by decide) 2 11 rfl).1]; exact r1.2.2.2.2.2.2⟩, mdT_g gu (by decide) r2, nmR_q (gu.g (by decide)) r3, ⟨cdR_q (gu.g (by decide)) r4.1, fun j x hx => by have hx : (aD A)[j]? = some x := hx; rw [eD] at hx; cases hx⟩, by rw [(gu.g (k := 11) (by decide) 4 6 rfl).1]; have r5 : σ.1 4 6 = bI (allB (st6 A l) 0 (aD A)) := r5; show σ.1 4 6 = bI (allB (st6 A (l ++ [r.1])) 0 (aD A)); rw [eD] at r5 ⊢; exact r5, w6, hI, by rw [(gu.g (k := 10) (by decide) 3 5 rfl).1]; exact r8, by rw [(gu.g (k := 14) (by decide) 6 4 rfl).2]; exact r9, hN, ⟨z1, z2, z3, z4, z5, fun c => absurd c (by decide), z7, z8, z9, z10, z11, z12⟩⟩
theorem st_7 {b : Nat → Nat} {e E : Nat} {A : mA} {QX : zS → Prop} (he : e ≤ E) (hA : mE0 7 A) (hB : mBn A) (l : List mExT) (p : Nat) (σ : zS) (K' : zS → Prop) (hs : cSt σ b e p) (hM : MD σ b E (st7 A l) 7) (hlt : ∀ m, (some 64 : Option Nat) = some m → l.length < m) (h16 : l.length < 16000) (h : mW (mEx b e p) (fun r => ∀ s', sQ σ s' → (∀ u, u = zsI s' 18 7 ((s'.1 18 7) + (1 : Int32)) → cSt u b e r.2 ∧ MD u b E (st7 A (l ++ [r.1])) 7) → K' s') (cEv σ K')) : rsI QX 7 (nI l.length) σ K' := by
  obtain ⟨r1, r2, r3, r4, r5, r6, r7, r8, r9, r10, r11⟩ := hM
  obtain ⟨z1, z2, z3, z4, z5, z6, z7, z8, z9, z10, z11, z12⟩ := id hA
  obtain ⟨b1, b2, b3, b4, b5, b6, b7, b8, b9, b10⟩ := id hB
  have eB : aB A = none := z8 (by decide)
  have eE : aE A = [] := z9 (by decide)
  have eC : aC A = none := z10 (by decide)
  have eD : aD A = [] := z11 (by decide)
  have eZ : aZ A = [] := z12 (by decide)
  show zCT zZC zmX6_readExport [.ref 3] σ (zQv K') QX
  have l0 := kI_le (k := 0) (l := aI A)
  have l1 := kI_le (k := 1) (l := aI A)
  have l2 := kI_le (k := 2) (l := aI A)
  have l3 := kI_le (k := 3) (l := aI A)
  have h64 := hlt 64 rfl
  have eX2 : (nmX l).length = l.length := List.length_map _
  have hc : ∀ k, kc (st7 A l) k < 2 ^ 30 := fun k => by
    unfold kc
    have f0 : (fnL (st7 A l)).length = (kI 0 (aI A)).length + (aF A).length := fnL_len
    have f3 : (glL (st7 A l)).length = (kI 3 (aI A)).length + (aG A).length := glL_len
    have f1 : kTb (st7 A l) = (kI 1 (aI A)).length + (aT A).length := rfl
    have f2 : kMm (st7 A l) = (kI 2 (aI A)).length + (aM A).length := rfl
    rw [f0, f1, f2, f3]
    repeat' split
    all_goals omega
  refine rd_export (c := kc (st7 A l)) (X := nmX l) hs r3 (by rw [eX2]; exact r7 7 (by decide) (by decide)) (by rw [eX2]; exact h64) hc r1.2.1.2.1 r1.2.2.2.2.2.1 r1.2.2.2.2.2.2 r1.2.2.2.1.2.1 (mW_mono h (fun r hr h s' g hs' hX hw => ?_) (fun _ _ _ h2 => h2))
  have eN : nmX (l ++ [r.1]) = nmX l ++ [(r.1.2.1, r.1.2.2.1)] := by unfold nmX; rw [List.map_append]; rfl
  refine h s' (g.q (by decide)) (fun u eu => ?_)
  have g8 := u18 eu
  have gu : gF [0, 7, 8, 9] σ u := (g.mono (by decide)).trans (g8.mono (by decide))
  have hI : itM u (st7 A (l ++ [r.1])) := (itM_set (A := st7 A l) (A' := st7 A (l ++ [r.1])) (k := 7) (by decide) eu (itM_g g (by decide) r7) (by show (l ++ [r.1]).length = l.length + 1; rw [List.length_append]; rfl) (twelve (p := fun j => ¬ j = 7 → nIt (st7 A (l ++ [r.1])) j = nIt (st7 A l) j) ⟨fun _ => rfl, fun _ => rfl, fun _ => rfl, fun _ => rfl, fun _ => rfl, fun _ => rfl, fun c => absurd rfl c, fun _ => rfl, fun _ => rfl, fun _ => rfl, fun _ => rfl, fun _ => rfl⟩))
  have hN : mBn (st7 A (l ++ [r.1])) := ⟨b1, b2, b3, b4, b5, b6, by show (l ++ [r.1]).length ≤ _; rw [List.length_append]; have := hlt _ rfl; show l.length + 1 ≤ _; omega, b8, b9, b10⟩
  have w6 : wr u ↔ wW b E (st7 A (l ++ [r.1])) := by
    rw [wr_q (g8.g (k := 7) (by decide)), hw, r6]
    unfold wW
    rw [show wIm (st7 A (l ++ [r.1])) = wIm (st7 A l) from rfl]
    rw [show wFn (st7 A (l ++ [r.1])) = wFn (st7 A l) from rfl]
    rw [show wTb (st7 A (l ++ [r.1])) = wTb (st7 A l) from rfl]
    rw [show wMm (st7 A (l ++ [r.1])) = wMm (st7 A l) from rfl]
    rw [show wGl b E (st7 A (l ++ [r.1])) = wGl b E (st7 A l) from rfl]
    rw [show wEx b (st7 A (l ++ [r.1])) ↔ wEx b (st7 A l) ∨ (¬ r.1.2.2.2.2.2 < kc (st7 A l) r.1.2.2.2.1 ∨ (nmX l).any (nmHas b r.1.2.1 r.1.2.2.1) = true) from wL_app (p := [])]
    rw [wSt_n (A := (st7 A (l ++ [r.1]))) eB, wSt_n (A := (st7 A l)) eB]
    rw [wEl_n (A := (st7 A (l ++ [r.1]))) eE, wEl_n (A := (st7 A l)) eE]
    rw [wBd_n (A := (st7 A (l ++ [r.1]))) eD, wBd_n (A := (st7 A l)) eD]
    rw [wDt_n (A := (st7 A (l ++ [r.1]))) eZ, wDt_n (A := (st7 A l)) eZ]
    simp only [or_false, false_or, or_assoc, or_comm, or_left_comm]
  exact ⟨cSt_18 hs' eu hI hN, mdK_g gu (by decide) (by decide) (by decide) (by decide) (by decide) r1, mdT_g gu (by decide) r2, by show nmR u (nmX (l ++ [r.1])); rw [eN]; exact nmR_q (g8.g (by decide)) hX, ⟨cdR_q (gu.g (by decide)) r4.1, fun j x hx => by have hx : (aD A)[j]? = some x := hx; rw [eD] at hx; cases hx⟩, by rw [(gu.g (k := 11) (by decide) 4 6 rfl).1]; have r5 : σ.1 4 6 = bI (allB (st7 A l) 0 (aD A)) := r5; show σ.1 4 6 = bI (allB (st7 A (l ++ [r.1])) 0 (aD A)); rw [eD] at r5 ⊢; exact r5, w6, hI, by rw [(gu.g (k := 10) (by decide) 3 5 rfl).1]; exact r8, by rw [(gu.g (k := 14) (by decide) 6 4 rfl).2]; exact r9, hN, ⟨z1, z2, z3, z4, z5, z6, fun c => absurd c (by decide), z8, z9, z10, z11, z12⟩⟩
