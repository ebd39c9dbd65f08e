/-! the sections' items, one by one -/
def mP8 (b : Nat → Nat) (e a : Nat) : mE ((Nat × Nat) × Nat) := (mU b e a).bind fun u => .ok ((a, u.1), u.2)
def st1 (A : mA) (l : List mSigT) : mA := (l, aI A, aF A, aT A, aM A, aG A, aX A, aB A, aE A, aC A, aD A, aZ A)
def st2 (A : mA) (l : List mImpT) : mA := (aS A, l, aF A, aT A, aM A, aG A, aX A, aB A, aE A, aC A, aD A, aZ A)
def st3 (A : mA) (l : List mFnT) : mA := (aS A, aI A, l, aT A, aM A, aG A, aX A, aB A, aE A, aC A, aD A, aZ A)
def st4 (A : mA) (l : List mTabT) : mA := (aS A, aI A, aF A, l, aM A, aG A, aX A, aB A, aE A, aC A, aD A, aZ A)
def st5 (A : mA) (l : List mTabT) : mA := (aS A, aI A, aF A, aT A, l, aG A, aX A, aB A, aE A, aC A, aD A, aZ A)
def st6 (A : mA) (l : List mGlT) : mA := (aS A, aI A, aF A, aT A, aM A, l, aX A, aB A, aE A, aC A, aD A, aZ A)
def st7 (A : mA) (l : List mExT) : mA := (aS A, aI A, aF A, aT A, aM A, aG A, l, aB A, aE A, aC A, aD A, aZ A)
def st8 (A : mA) (l : List (Nat × Nat)) : mA := (aS A, aI A, aF A, aT A, aM A, aG A, aX A, l.head?, aE A, aC A, aD A, aZ A)
def st9 (A : mA) (l : List mElT) : mA := (aS A, aI A, aF A, aT A, aM A, aG A, aX A, aB A, l, aC A, aD A, aZ A)
def st10 (A : mA) (l : List mBdT) : mA := (aS A, aI A, aF A, aT A, aM A, aG A, aX A, aB A, aE A, aC A, l, aZ A)
def st11 (A : mA) (l : List mDtT) : mA := (aS A, aI A, aF A, aT A, aM A, aG A, aX A, aB A, aE A, aC A, aD A, l)
def st12 (A : mA) (l : List Nat) : mA := (aS A, aI A, aF A, aT A, aM A, aG A, aX A, aB A, aE A, l.head?, aD A, aZ A)
theorem elBad_E {b : Nat → Nat} {e E a m nt nf : Nat} {G : List (Nat × Nat)} {r : mElT × Nat} (he : e ≤ E) (h : mEl b e a = .ok r) : elBad G m nt nf b e r.1 ↔ elBad G m nt nf b E r.1 := by
  unfold elBad
  by_cases q : r.1.2.1 = 0
  · obtain ⟨z, hz⟩ := (mEl_c (x := r.1) (r := r.2) h).1 q
    rw [kCst_E he hz]
  · exact ⟨fun z => z.elim (fun z => absurd z.1 q) Or.inr, fun z => z.elim (fun z => absurd z.1 q) Or.inr⟩
theorem dtBad_E {b : Nat → Nat} {e E a m nm : Nat} {G : List (Nat × Nat)} {r : mDtT × Nat} (he : e ≤ E) (h : mDt b e a = .ok r) : dtBad G m nm b e r.1 ↔ dtBad G m nm b E r.1 := by
  unfold dtBad
  by_cases q : r.1.2.1 = 0
  · obtain ⟨z, hz⟩ := mDt_c (x := r.1) (r := r.2) h q
    rw [kCst_E he hz]
  · exact ⟨fun z => absurd z.1 q, fun z => absurd z.1 q⟩
theorem st_1 {b : Nat → Nat} {e E : Nat} {A : mA} {QX : zS → Prop} (he : e ≤ E) (hA : mE0 1 A) (hB : mBn A) (l : List mSigT) (p : Nat) (σ : zS) (K' : zS → Prop) (hs : cSt σ b e p) (hM : MD σ b E (st1 A l) 1) (hlt : ∀ m, (some 64 : Option Nat) = some m → l.length < m) (h16 : l.length < 16000) (h : mW (mSig b e p) (fun r => ∀ s', sQ σ s' → (∀ u, u = zsI s' 18 1 ((s'.1 18 1) + (1 : Int32)) → cSt u b e r.2 ∧ MD u b E (st1 A (l ++ [r.1])) 1) → K' s') (cEv σ K')) : rsI QX 1 (nI l.length) σ K' := by
  obtain ⟨r1, r2, r3, r4, r5, r6, r7, r8, r9, r10, r11⟩ := hM
  obtain ⟨z1, z2, z3, z4, z5, z6, z7, z8, z9, z10, z11, z12⟩ := id hA
  obtain ⟨b1, b2, b3, b4, b5, b6, b7, b8, b9, b10⟩ := id hB
  have eI : aI A = [] := z2 (by decide)
  have eF : aF A = [] := z3 (by decide)
  have eT : aT A = [] := z4 (by decide)
  have eM : aM A = [] := z5 (by decide)
  have eG : aG A = [] := z6 (by decide)
  have eX : aX A = [] := z7 (by decide)
  have eB : aB A = none := z8 (by decide)
  have eE : aE A = [] := z9 (by decide)
  have eC : aC A = none := z10 (by decide)
  have eD : aD A = [] := z11 (by decide)
  have eZ : aZ A = [] := z12 (by decide)
  show zCT zZC zmX6_readSignature [.ref 3] σ (zQv K') QX
  refine rd_signature hs (r7 1 (by decide) (by decide)) r1.1 (hlt 64 rfl) (mW_mono h (fun r hr h s' g hs' hS => ?_) (fun _ _ _ h2 => h2))
  have eL : fnL (st1 A l) = [] := by show (kI 0 (aI A)).map _ ++ (aF A).map _ = []; rw [eI, eF]; rfl
  refine h s' (g.q (by decide)) (fun u eu => ?_)
  have g8 := u18 eu
  have gu : gF [0, 1, 8] σ u := (g.mono (by decide)).trans (g8.mono (by decide))
  have hI : itM u (st1 A (l ++ [r.1])) := (itM_set (A := st1 A l) (A' := st1 A (l ++ [r.1])) (k := 1) (by decide) eu (itM_g g (by decide) r7) (by show (l ++ [r.1]).length = l.length + 1; rw [List.length_append]; rfl) (twelve (p := fun j => ¬ j = 1 → nIt (st1 A (l ++ [r.1])) j = nIt (st1 A l) j) ⟨fun c => absurd rfl c, fun _ => rfl, fun _ => rfl, fun _ => rfl, fun _ => rfl, fun _ => rfl, fun _ => rfl, fun _ => rfl, fun _ => rfl, fun _ => rfl, fun _ => rfl, fun _ => rfl⟩))
  have hN : mBn (st1 A (l ++ [r.1])) := ⟨by show (l ++ [r.1]).length ≤ _; rw [List.length_append]; have := hlt _ rfl; show l.length + 1 ≤ _; omega, b2, b3, b4, b5, b6, b7, b8, b9, b10⟩
  have w6 : wr u ↔ wW b E (st1 A (l ++ [r.1])) := by
    rw [wr_q (g8.g (k := 7) (by decide)), wr_q (g.g (k := 7) (by decide)), r6]
    unfold wW
    rw [wIm_n (A := (st1 A (l ++ [r.1]))) eI, wIm_n (A := (st1 A l)) eI]
    rw [wFn_n (A := (st1 A (l ++ [r.1]))) eF, wFn_n (A := (st1 A l)) eF]
    rw [wTb_n (A := (st1 A (l ++ [r.1]))) eT, wTb_n (A := (st1 A l)) eT]
    rw [wMm_n (A := (st1 A (l ++ [r.1]))) eM, wMm_n (A := (st1 A l)) eM]
    rw [wGl_n (A := (st1 A (l ++ [r.1]))) eG, wGl_n (A := (st1 A l)) eG]
    rw [wEx_n (A := (st1 A (l ++ [r.1]))) eX, wEx_n (A := (st1 A l)) eX]
    rw [wSt_n (A := (st1 A (l ++ [r.1]))) eB, wSt_n (A := (st1 A l)) eB]
    rw [wEl_n (A := (st1 A (l ++ [r.1]))) eE, wEl_n (A := (st1 A l)) eE]
    rw [wBd_n (A := (st1 A (l ++ [r.1]))) eD, wBd_n (A := (st1 A l)) eD]
    rw [wDt_n (A := (st1 A (l ++ [r.1]))) eZ, wDt_n (A := (st1 A l)) eZ]
  exact ⟨cSt_18 hs' eu hI hN, ⟨sgR_q (g8.g (by decide)) hS, by obtain ⟨⟨q1, q2, q3⟩, q4⟩ := (cFx_g gu (by decide) (by decide) (by decide) (by decide) r1.2); exact ⟨⟨q1, q2, fun i x hx => by have hx : (fnL (st1 A l))[i]? = some x := hx; rw [eL] at hx; cases hx⟩, q4⟩⟩, mdT_g gu (by decide) r2, nmR_q (gu.g (by decide)) r3, ⟨cdR_q (gu.g (by decide)) r4.1, fun j x hx => by have hx : (aD A)[j]? = some x := hx; rw [eD] at hx; cases hx⟩, by rw [(gu.g (k := 11) (by decide) 4 6 rfl).1]; have r5 : σ.1 4 6 = bI (allB (st1 A l) 0 (aD A)) := r5; show σ.1 4 6 = bI (allB (st1 A (l ++ [r.1])) 0 (aD A)); rw [eD] at r5 ⊢; exact r5, w6, hI, by rw [(gu.g (k := 10) (by decide) 3 5 rfl).1]; exact r8, by rw [(gu.g (k := 14) (by decide) 6 4 rfl).2]; exact r9, hN, ⟨fun c => absurd c (by decide), z2, z3, z4, z5, z6, z7, z8, z9, z10, z11, z12⟩⟩
theorem st_2 {b : Nat → Nat} {e E : Nat} {A : mA} {QX : zS → Prop} (he : e ≤ E) (hA : mE0 2 A) (hB : mBn A) (l : List mImpT) (p : Nat) (σ : zS) (K' : zS → Prop) (hs : cSt σ b e p) (hM : MD σ b E (st2 A l) 2) (hlt : ∀ m, (some 32 : Option Nat) = some m → l.length < m) (h16 : l.length < 16000) (h : mW (mImp b e p) (fun r => ∀ s', sQ σ s' → (∀ u, u = zsI s' 18 2 ((s'.1 18 2) + (1 : Int32)) → cSt u b e r.2 ∧ MD u b E (st2 A (l ++ [r.1])) 2) → K' s') (cEv σ K')) : rsI QX 2 (nI l.length) σ K' := by
  obtain ⟨r1, r2, r3, r4, r5, r6, r7, r8, r9, r10, r11⟩ := hM
  obtain ⟨z1, z2, z3, z4, z5, z6, z7, z8, z9, z10, z11, z12⟩ := id hA
  obtain ⟨b1, b2, b3, b4, b5, b6, b7, b8, b9, b10⟩ := id hB
  have eF : aF A = [] := z3 (by decide)
  have eT : aT A = [] := z4 (by decide)
  have eM : aM A = [] := z5 (by decide)
  have eG : aG A = [] := z6 (by decide)
  have eX : aX A = [] := z7 (by decide)
  have eB : aB A = none := z8 (by decide)
  have eE : aE A = [] := z9 (by decide)
  have eC : aC A = none := z10 (by decide)
  have eD : aD A = [] := z11 (by decide)
  have eZ : aZ A = [] := z12 (by decide)
  show zCT zZC zmX6_readImport [.ref 3] σ (zQv K') QX
  have l0 := kI_le (k := 0) (l := l)
  have l1 := kI_le (k := 1) (l := l)
  have l2 := kI_le (k := 2) (l := l)
  have l3 := kI_le (k := 3) (l := l)
  have h32 := hlt 32 rfl
  have eL : ∀ l, fnL (st2 A l) = (kI 0 l).map (fun x => x.2.2.2.1) := fun l => by show (kI 0 l).map _ ++ (aF A).map _ = _; rw [eF]; exact List.append_nil _
  have eG' : ∀ l, glL (st2 A l) = gIl l := fun l => by show gIl l ++ gOl (aG A) = _; rw [eG]; exact List.append_nil _
  have eT' : ∀ l, kTb (st2 A l) = (kI 1 l).length := fun l => by show (kI 1 l).length + (aT A).length = _; rw [eT]; rfl
  have eM' : ∀ l, kMm (st2 A l) = (kI 2 l).length := fun l => by show (kI 2 l).length + (aM A).length = _; rw [eM]; rfl
  have x1 : cFx σ (aS A).length ((kI 0 l).map (fun x => x.2.2.2.1)) (kI 0 l).length (gIl l) (kI 3 l).length (kI 1 l).length (kI 2 l).length := by rw [← eL, ← eG', ← eT', ← eM']; exact r1.2
  refine rd_import hs x1 (by rw [List.length_map]; omega) (by unfold gIl; rw [List.length_map]; omega) (r7 1 (by decide) (by decide)) b1 (by omega) (by omega) (by omega) (by omega) (mW_mono h (fun r hr h s' g hs' hx hw => ?_) (fun _ _ _ h2 => h2))
  refine h s' (g.q (by decide)) (fun u eu => ?_)
  have g8 := u18 eu
  have gu : gF [0, 2, 3, 4, 5, 7, 8] σ u := (g.mono (by decide)).trans (g8.mono (by decide))
  have hI : itM u (st2 A (l ++ [r.1])) := (itM_set (A := st2 A l) (A' := st2 A (l ++ [r.1])) (k := 2) (by decide) eu (itM_g g (by decide) r7) (by show (l ++ [r.1]).length = l.length + 1; rw [List.length_append]; rfl) (twelve (p := fun j => ¬ j = 2 → nIt (st2 A (l ++ [r.1])) j = nIt (st2 A l) j) ⟨fun _ => rfl, fun c => absurd rfl c, fun _ => rfl, fun _ => rfl, fun _ => rfl, fun _ => rfl, fun _ => rfl, fun _ => rfl, fun _ => rfl, fun _ => rfl, fun _ => rfl, fun _ => rfl⟩))
  have hN : mBn (st2 A (l ++ [r.1])) := ⟨b1, by show (l ++ [r.1]).length ≤ _; rw [List.length_append]; have := hlt _ rfl; show l.length + 1 ≤ _; omega, b3, b4, b5, b6, b7, b8, b9, b10⟩
  have w6 : wr u ↔ wW b E (st2 A (l ++ [r.1])) := by
    rw [wr_q (g8.g (k := 7) (by decide)), hw, r6]
    unfold wW
    rw [show wIm (st2 A (l ++ [r.1])) ↔ wIm (st2 A l) ∨ impBad (aS A).length (kI 1 l).length (kI 2 l).length r.1 from wL_app (p := [])]
    rw [wFn_n (A := (st2 A (l ++ [r.1]))) eF, wFn_n (A := (st2 A l)) eF]
    rw [wTb_n (A := (st2 A (l ++ [r.1]))) eT, wTb_n (A := (st2 A l)) eT]
    rw [wMm_n (A := (st2 A (l ++ [r.1]))) eM, wMm_n (A := (st2 A l)) eM]
    rw [wGl_n (A := (st2 A (l ++ [r.1]))) eG, wGl_n (A := (st2 A l)) eG]
    rw [wEx_n (A := (st2 A (l ++ [r.1]))) eX, wEx_n (A := (st2 A l)) eX]
    rw [wSt_n (A := (st2 A (l ++ [r.1]))) eB, wSt_n (A := (st2 A l)) eB]
    rw [wEl_n (A := (st2 A (l ++ [r.1]))) eE, wEl_n (A := (st2 A l)) eE]
    rw [wBd_n (A := (st2 A (l ++ [r.1]))) eD, wBd_n (A := (st2 A l)) eD]
    rw [wDt_n (A := (st2 A (l ++ [r.1]))) eZ, wDt_n (A := (st2 A l)) eZ]
    simp only [or_false, false_or, or_assoc, or_comm, or_left_comm]
  have hx2 : cFx u (aS A).length (fnL (st2 A (l ++ [r.1]))) (kI 0 (l ++ [r.1])).length (glL (st2 A (l ++ [r.1]))) (kI 3 (l ++ [r.1])).length (kTb (st2 A (l ++ [r.1]))) (kMm (st2 A (l ++ [r.1]))) := by
    rw [eL, eG', eT', eM']
    have q := cFx_g g8 (by decide) (by decide) (by decide) (by decide) hx
    have a0 : (kI 0 (l ++ [r.1])).map (fun x => x.2.2.2.1) = if r.1.2.1 = 0 then (kI 0 l).map (fun x => x.2.2.2.1) ++ [r.1.2.2.2.1] else (kI 0 l).map (fun x => x.2.2.2.1) := by rw [kI_app]; split <;> simp
    have a1 : gIl (l ++ [r.1]) = if r.1.2.1 = 3 then gIl l ++ [(r.1.2.2.2.1, r.1.2.2.2.2.1)] else gIl l := by unfold gIl; rw [kI_app]; split <;> simp
    have a2 : ∀ k, (kI k (l ++ [r.1])).length = if r.1.2.1 = k then (kI k l).length + 1 else (kI k l).length := fun k => by rw [kI_app]; split <;> simp
    rw [a0, a1, a2 0, a2 3, a2 1, a2 2]
    exact q
  exact ⟨cSt_18 hs' eu hI hN, ⟨sgR_q (gu.g (by decide)) r1.1, hx2⟩, mdT_g gu (by decide) r2, nmR_q (gu.g (by decide)) r3, ⟨cdR_q (gu.g (by decide)) r4.1, fun j x hx => by have hx : (aD A)[j]? = some x := hx; rw [eD] at hx; cases hx⟩, by rw [(gu.g (k := 11) (by decide) 4 6 rfl).1]; have r5 : σ.1 4 6 = bI (allB (st2 A l) 0 (aD A)) := r5; show σ.1 4 6 = bI (allB (st2 A (l ++ [r.1])) 0 (aD A)); rw [eD] at r5 ⊢; exact r5, w6, hI, by rw [(gu.g (k := 10) (by decide) 3 5 rfl).1]; exact r8, by rw [(gu.g (k := 14) (by decide) 6 4 rfl).2]; exact r9, hN, ⟨z1, fun c => absurd c (by decide), z3, z4, z5, z6, z7, z8, z9, z10, z11, z12⟩⟩
theorem st_3 {b : Nat → Nat} {e E : Nat} {A : mA} {QX : zS → Prop} (he : e ≤ E) (hA : mE0 3 A) (hB : mBn A) (l : List mFnT) (p : Nat) (σ : zS) (K' : zS → Prop) (hs : cSt σ b e p) (hM : MD σ b E (st3 A l) 3) (hlt : ∀ m, (some 64 : Option Nat) = some m → l.length < m) (h16 : l.length < 16000) (h : mW (mFn b e p) (fun r => ∀ s', sQ σ s' → (∀ u, u = zsI s' 18 3 ((s'.1 18 3) + (1 : Int32)) → cSt u b e r.2 ∧ MD u b E (st3 A (l ++ [r.1])) 3) → K' s') (cEv σ K')) : rsI QX 3 (nI l.length) σ K' := by
  obtain ⟨r1, r2, r3, r4, r5, r6, r7, r8, r9, r10, r11⟩ := hM
  obtain ⟨z1, z2, z3, z4, z5, z6, z7, z8, z9, z10, z11, z12⟩ := id hA
  obtain ⟨b1, b2, b3, b4, b5, b6, b7, b8, b9, b10⟩ := id hB
  have eT : aT A = [] := z4 (by decide)
  have eM : aM A = [] := z5 (by decide)
  have eG : aG A = [] := z6 (by decide)
  have eX : aX A = [] := z7 (by decide)
  have eB : aB A = none := z8 (by decide)
  have eE : aE A = [] := z9 (by decide)
  have eC : aC A = none := z10 (by decide)
  have eD : aD A = [] := z11 (by decide)
  have eZ : aZ A = [] := z12 (by decide)
  show zCT zZC zmX6_readSignatureOfFunction [.ref 3, .int (1 : Int32)] σ (zQv K') QX
  have l0 := kI_le (k := 0) (l := aI A)
  have h64 := hlt 64 rfl
  unfold mFn at h
  rw [mW_bind] at h
  refine rd_fn 1 hs rfl (by decide) r1.2.1 (by rw [fnL_len]; show (kI 0 (aI A)).length + l.length < 96; omega) (r7 1 (by decide) (by decide)) b1 (mW_mono h (fun x hx h s' g hs' hf h29 hw => ?_) (fun _ _ _ h2 => h2))
  obtain ⟨r, er⟩ : ∃ r : mFnT × Nat, r = ((p, x.1), x.2) := ⟨_, rfl⟩
  have h : ∀ s', sQ σ s' → (∀ u, u = zsI s' 18 3 ((s'.1 18 3) + (1 : Int32)) → cSt u b e r.2 ∧ MD u b E (st3 A (l ++ [r.1])) 3) → K' s' := by rw [er]; exact h
  have hs' : cSt s' b e r.2 := by rw [er]; exact hs'
  have eL : fnL (st3 A (l ++ [r.1])) = fnL (st3 A l) ++ [x.1] := by rw [er]; show (kI 0 (aI A)).map _ ++ (l ++ [(p, x.1)]).map _ = ((kI 0 (aI A)).map _ ++ l.map _) ++ [x.1]; rw [List.map_append, List.append_assoc]; rfl
  have hw : wr s' ↔ wr σ ∨ ¬ r.1.2 < (aS A).length := by rw [er]; exact hw
  have hf : fnR s' (aS A).length (fnL (st3 A (l ++ [r.1]))) := by rw [eL]; exact hf
  refine h s' (g.q (by decide)) (fun u eu => ?_)
  have g8 := u18 eu
  have gu : gF [0, 2, 7, 8] σ u := (g.mono (by decide)).trans (g8.mono (by decide))
  have hI : itM u (st3 A (l ++ [r.1])) := (itM_set (A := st3 A l) (A' := st3 A (l ++ [r.1])) (k := 3) (by decide) eu (itM_g g (by decide) r7) (by show (l ++ [r.1]).length = l.length + 1; rw [List.length_append]; rfl) (twelve (p := fun j => ¬ j = 3 → nIt (st3 A (l ++ [r.1])) j = nIt (st3 A l) j) ⟨fun _ => rfl, fun _ => rfl, fun c => absurd rfl c, fun _ => rfl, fun _ => rfl, fun _ => rfl, fun _ => rfl, fun _ => rfl, fun _ => rfl, fun _ => rfl, fun _ => rfl, fun _ => rfl⟩))
  have hN : mBn (st3 A (l ++ [r.1])) := ⟨b1, b2, by show (l ++ [r.1]).length ≤ _; rw [List.length_append]; have := hlt _ rfl; show l.length + 1 ≤ _; omega, b4, b5, b6, b7, b8, b9, b10⟩
  have w6 : wr u ↔ wW b E (st3 A (l ++ [r.1])) := by
    rw [wr_q (g8.g (k := 7) (by decide)), hw, r6]
    unfold wW
    rw [show wIm (st3 A (l ++ [r.1])) = wIm (st3 A l) from rfl]
    rw [show wFn (st3 A (l ++ [r.1])) ↔ wFn (st3 A l) ∨ ¬ r.1.2 < (aS A).length from wL_app (p := [])]
    rw [wTb_n (A := (st3 A (l ++ [r.1]))) eT, wTb_n (A := (st3 A l)) eT]
    rw [wMm_n (A := (st3 A (l ++ [r.1]))) eM, wMm_n (A := (st3 A l)) eM]
    rw [wGl_n (A := (st3 A (l ++ [r.1]))) eG, wGl_n (A := (st3 A l)) eG]
    rw [wEx_n (A := (st3 A (l ++ [r.1]))) eX, wEx_n (A := (st3 A l)) eX]
    rw [wSt_n (A := (st3 A (l ++ [r.1]))) eB, wSt_n (A := (st3 A l)) eB]
    rw [wEl_n (A := (st3 A (l ++ [r.1]))) eE, wEl_n (A := (st3 A l)) eE]
    rw [wBd_n (A := (st3 A (l ++ [r.1]))) eD, wBd_n (A := (st3 A l)) eD]
    rw [wDt_n (A := (st3 A (l ++ [r.1]))) eZ, wDt_n (A := (st3 A l)) eZ]
    simp only [or_false, false_or, or_assoc, or_comm, or_left_comm]
  exact ⟨cSt_18 hs' eu hI hN, ⟨sgR_q (gu.g (by decide)) r1.1, fnR_q (g8.g (by decide)) hf, by rw [(g8.g (k := 2) (by decide) 2 9 rfl).1, h29]; exact r1.2.2.1, glR_q (gu.g (by decide)) r1.2.2.2.1, by rw [(gu.g (k := 3) (by decide) 2 13 rfl).1]; exact r1.2.2.2.2.1, by rw [(gu.g (k := 4) (by decide) 2 10 rfl).1]; exact r1.2.2.2.2.2.1, by rw [(gu.g (k := 5) (by decide) 2 11 rfl).1]; exact r1.2.2.2.2.2.2⟩, mdT_g gu (by decide) r2, nmR_q (gu.g (by decide)) r3, ⟨cdR_q (gu.g (by decide)) r4.1, fun j x hx => by have hx : (aD A)[j]? = some x := hx; rw [eD] at hx; cases hx⟩, by rw [(gu.g (k := 11) (by decide) 4 6 rfl).1]; have r5 : σ.1 4 6 = bI (allB (st3 A l) 0 (aD A)) := r5; show σ.1 4 6 = bI (allB (st3 A (l ++ [r.1])) 0 (aD A)); rw [eD] at r5 ⊢; exact r5, w6, hI, by rw [(gu.g (k := 10) (by decide) 3 5 rfl).1]; exact r8, by rw [(gu.g (k := 14) (by decide) 6 4 rfl).2]; exact r9, hN, ⟨z1, z2, fun c => absurd c (by decide), z4, z5, z6, z7, z8, z9, z10, z11, z12⟩⟩
