theorem rd_global {s : zS} {b : Nat → Nat} {e a m : Nat} {G : List (Nat × Nat)} {K : zS → Prop} {QX : zS → Prop} (hs : cSt s b e a) (hg : glR s G) (hm : s.1 2 13 = nI m) (hm2 : m ≤ G.length) (hl : G.length < 64)
    (h : mW (mGl b e a) (fun r => ∀ s', gF [0, 3, 7] s s' → cSt s' b e r.2 → glR s' (G ++ [(r.1.1, r.1.2.1)]) → s'.1 2 13 = nI m → (wr s' ↔ wr s ∨ ¬ kCst G m b e r.1.2.2 r.1.1) → K s') (cEv s K)) : zCT zZC zmX6_readGlobal [.ref 3] s (zQv K) QX := by
  refine rX6_readGlobal ?_
  unfold PX6_readGlobal_0
  unfold mGl at h
  rw [mW_bind] at h
  refine rd_type hs (mW_mono h (fun t ht h s1 k1 hs1 ht1 => ?_) (fun k p hq h2 v s1 her q1 => er_X6_readGlobal_0_0 her.v (h2.go q1 her)))
  rw [mW_bind] at h
  have et : nI (127 - t.1) = nI (tyN t.1) := by unfold tyN; rw [if_neg (by omega), if_neg (by omega)]
  refine rd_flag hs1 (mW_mono h (fun f hf h s2 k2 hs2 hf1 => ?_) (fun k p hq h2 v s2 her q2 => er_X6_readGlobal_0_1 her.v (h2.go (k1.q.trans q2) her)))
  rw [mW_bind] at h
  have k12 := k1.trans k2
  have g2 := glR_q (k12.g.g (k := 3) (by decide)) hg
  have m2 : s2.1 2 13 = nI m := by rw [(k12.g.g (k := 3) (by decide) 2 13 rfl).1]; exact hm
  have c1 : nI f.1 = (1 : Int32) ↔ f.1 = 1 := nI_eq (b := 1) (by omega) (by decide)
  rw [c1]
  have fin : ∀ (x : mE Nat), ∀ ci : Int32, ci = nI f.1 → mW x (fun r => mW (.ok ((t.1, f.1, f.2), r) : mE (mGlT × Nat)) (fun r => ∀ s', gF [0, 3, 7] s s' → cSt s' b e r.2 → glR s' (G ++ [(r.1.1, r.1.2.1)]) → s'.1 2 13 = nI m → (wr s' ↔ wr s ∨ ¬ kCst G m b e r.1.2.2 r.1.1) → K s') (cEv s K)) (cEv s K) → mW x (fun r => ∀ s3, gF [0, 7] s2 s3 → cSt s3 b e r → (wr s3 ↔ wr s2 ∨ ¬ kCst G m b e f.2 t.1) → zCT zZC zmX2_addGlobal [.ref 2, .int (nI (127 - t.1)), .int ci] s3 (zQv K) QX) (cEv s K) := by
    intro x ci hci h
    refine mW_mono h (fun r _ h s3 g3 hs3 w3 => ?_) (fun _ _ _ h => h)
    have g13 : gF [0, 7] s s3 := (k12.g.mono (by decide)).trans g3
    have g4 := glR_q (g13.g (k := 3) (by decide)) hg
    refine rd_addGlobal hs3.v g4 hl ht1 hf1 et hci (fun s4 gg v4 r4 m4 => h s4 ((g13.mono (by decide)).trans (gg.mono (by decide))) (gg.st (by decide) (by decide) v4 hs3) r4 ?_ ?_)
    · rw [m4, (g13.g (k := 3) (by decide) 2 13 rfl).1]; exact hm
    · rw [wr_q (gg.g (k := 7) (by decide)), w3, wr_q (k12.g.g (k := 7) (by decide))]
  refine ⟨fun c => ?_, fun c => ?_⟩
  · exact rd_constant 6 hs2 g2 m2 hm2 rfl (by decide) et ht1 (mW_mono (fin _ (1 : Int32) (by rw [c]; rfl) h) (fun _ _ h => h) (fun k p hq h2 s3 her q3 => er_X6_readGlobal_0_2 her.v (h2.go (k12.q.trans q3) her)))
  · exact rd_constant 6 hs2 g2 m2 hm2 rfl (by decide) et ht1 (mW_mono (fin _ (0 : Int32) (by rw [show f.1 = 0 by omega]; rfl) h) (fun _ _ h => h) (fun k p hq h2 s3 her q3 => er_X6_readGlobal_0_4 her.v (h2.go (k12.q.trans q3) her)))
/-- the function x cannot be a module's start -/
def staBad (n : Nat) (L : List Nat) (S : List mSigT) (x : Nat) : Prop := match L[x]? with
  | none => True
  | some y => match S[y]? with
    | none => True
    | some g => ¬ (g.1.length = 0 ∧ g.2 = 2)
theorem rd_start {s : zS} {b : Nat → Nat} {e a : Nat} {L : List Nat} {S : List mSigT} {K : zS → Prop} {QX : zS → Prop} (hs : cSt s b e a) (hf : fnR s S.length L) (hg : sgR s S) (h : mW (mU b e a) (fun r => ∀ s', gF [0, 7] s s' → cSt s' b e r.2 → (wr s' ↔ wr s ∨ staBad S.length L S r.1) → K s') (cEv s K)) : zCT zZC zmX6_readStart [.ref 3] s (zQv K) QX := by
  have ha := hs.lt
  refine rX6_readStart ?_
  unfold PX6_readStart_0
  refine rd_number hs (mW_mono h (fun r hr h s1 k1 hs1 => ?_) (fun k p hq h2 v s1 her q1 => er_X6_readStart_0_0 her.v (h2.go q1 her)))
  have hlt := mU_lt hr
  have g1 := k1.g
  have f1 := fnR_q (g1.g (k := 2) (by decide)) hf
  have sg1 := sgR_q (g1.g (k := 1) (by decide)) hg
  have w1 := wr_q (g1.g (k := 7) (by decide))
  have bad : staBad S.length L S r.1 → zCT zZC zmX2_noteWrong [.ref 2, .int (9 : Int32), .int (s.1 1 2)] s1 (zQv K) QX := fun z =>
    rd_noteWrong 9 a hs1.v rfl (by decide) hs.2.2.2.1 (by omega) (fun s2 g2 v2 w2 => h s2 ((g1.mono (by decide)).trans (g2.mono (by decide))) (g2.st (by decide) (by decide) v2 hs1) ⟨fun _ => Or.inr z, fun _ => w2⟩)
  have good : ¬ staBad S.length L S r.1 → K s1 := fun z => h s1 (g1.mono (by decide)) hs1 (by rw [w1]; exact ⟨fun q => Or.inl q, fun q => q.resolve_right z⟩)
  refine rd_signatureOf f1 (by omega) ?_
  cases hL : L[r.1]? with
  | none => exact ⟨fun _ => bad (by unfold staBad; rw [hL]; trivial), fun z => absurd (show (-1 : Int32) < 0 by decide) z⟩
  | some y =>
    show _ ∧ _
    by_cases q : y < S.length
    · have e1 : (some y).elim (-1) (sgI S.length) = nI y := by show sgI S.length y = _; unfold sgI; rw [if_pos q]
      have h64 := hg.1
      have eg := List.getElem?_eq_getElem (l := S) (i := y) q
      have hsb : staBad S.length L S r.1 ↔ ¬ ((S[y]).1.length = 0 ∧ (S[y]).2 = 2) := by unfold staBad; rw [hL]; show (match S[y]? with | none => True | some g => ¬ (g.1.length = 0 ∧ g.2 = 2)) ↔ _; rw [eg]
      have ok := (hg.2 y _ eg).1
      have h16 := ok.1
      rw [e1]
      refine ⟨fun z => absurd z (nI_pos (by omega)), fun _ => ?_⟩
      refine rd_parameterCount sg1 eg ?_
      have c1 : (0 : Int32) < nI (S[y]).1.length ↔ 0 < (S[y]).1.length := nI_ltI (a := 0) (by decide) (by omega)
      rw [c1]
      refine ⟨fun c => bad (by rw [hsb]; omega), fun c => ?_⟩
      refine rd_resultOf sg1 eg ?_
      have h2 := ok.2.2
      have c2 : nI (tyN (S[y]).2) = (64 : Int32) ↔ (S[y]).2 = 2 := by
        have : tyN (S[y]).2 < 200 := by unfold tyN; split <;> (try split) <;> omega
        rw [show (64 : Int32) = nI 64 from rfl, nI_eq (by omega) (by decide)]
        unfold tyN
        split <;> (try split) <;> omega
      rw [c2]
      exact ⟨fun c => good (by rw [hsb]; omega), fun c => bad (by rw [hsb]; omega)⟩
    · have e1 : (some y).elim (-1) (sgI S.length) = -1 := by show sgI S.length y = _; unfold sgI; rw [if_neg q]
      rw [e1]
      exact ⟨fun _ => bad (by unfold staBad; rw [hL]; show (match S[y]? with | none => True | some g => ¬ (g.1.length = 0 ∧ g.2 = 2)); rw [List.getElem?_eq_none (by omega)]; trivial), fun z => absurd (by decide) z⟩
/-- a row of functions: each is there -/
theorem rd_rowF {s : zS} {b : Nat → Nat} {e a n : Nat} {L : List Nat} {K : zS → Prop} {QX : zS → Prop} (hs : cSt s b e a) (hf : fnR s n L)
    (h : mW ((mU b e a).bind fun n => if 256 < n.1 then .error (4, a) else mRow (mFn b e) none n.1 [] n.2) (fun r => ∀ s', gF [0, 7] s s' → cSt s' b e r.2 → (wr s' ↔ wr s ∨ ∃ x ∈ r.1, ¬ x.2 < L.length) → K s') (cEv s K)) : zCT zZC zmX6_readRowOfFunctions [.ref 3] s (zQv K) QX := by
  have ha := hs.lt
  have hL := hf.1
  refine rX6_readRowOfFunctions (fun m x2 x3 σ => (∃ n j l a', m + j = 1000 ∧ x2 = nI n ∧ x3 = nI j ∧ j ≤ n ∧ n ≤ 256 ∧ gF [0, 7] s σ ∧ cSt σ b e a' ∧ (wr σ ↔ wr s ∨ ∃ x ∈ l, ¬ x.2 < L.length) ∧ mW (mRow (mFn b e) none (n - j) l a') (fun r => ∀ s', gF [0, 7] s s' → cSt s' b e r.2 → (wr s' ↔ wr s ∨ ∃ x ∈ r.1, ¬ x.2 < L.length) → K s') (cEv s K)) ∨ (∃ kk p, m = 0 ∧ cEr σ kk p ∧ sQ s σ ∧ cEv s K kk p)) ?_ ?_
  · rintro m x2 x3 σ (⟨n', j, l, a', hm, rfl, rfl, hj, hn, g, hs', w, hw⟩ | ⟨kk, p, hm, her, q, hE⟩)
    · unfold PX6_readRowOfFunctions_34
      have c1 : nI n' ≤ nI j ↔ n' ≤ j := nI_leI (by omega) (by omega)
      have ha' := hs'.lt
      rw [c1, hs'.2.2.1]
      refine ⟨fun c => ?_, fun c => ⟨fun _ => ?_, fun z => absurd rfl z⟩⟩
      · rw [show n' - j = 0 by omega] at hw
        exact hw σ g hs' w
      · rw [show n' - j = (n' - (j + 1)) + 1 by omega] at hw
        unfold mRow at hw
        rw [if_neg (by intro z; cases z), mW_bind] at hw
        unfold mFn at hw
        rw [mW_bind] at hw
        refine rd_number hs' (mW_mono hw (fun r hr hw s1 k1 hs1 => ?_) (fun kk p hq h2 v s1 her q1 => ?_))
        · have hlt := mU_lt hr
          have g1 : gF [0, 7] s s1 := g.trans (k1.g.mono (by decide))
          have f1 : s1.1 2 8 = nI L.length := by rw [(g1.g (k := 2) (by decide) 2 8 rfl).1]; exact hf.2.1
          have c2 : lN r.1 < (s1.1 2 8).toInt64 ↔ r.1 < L.length := by rw [f1, nI_l (by omega), lN_ltB (by omega) (by omega)]
          have w1 : wr s1 ↔ wr σ := wr_q (k1.g.g (k := 7) (by decide))
          rw [c2]
          have next : ∀ s2, gF [0, 7] s s2 → cSt s2 b e r.2 → (wr s2 ↔ wr s ∨ ∃ x ∈ l ++ [(a', r.1)], ¬ x.2 < L.length) → ∃ m', zlt m' (some m) ∧ ((∃ n j l a', m' + j = 1000 ∧ nI n' = nI n ∧ _ = nI j ∧ j ≤ n ∧ n ≤ 256 ∧ gF [0, 7] s s2 ∧ cSt s2 b e a' ∧ (wr s2 ↔ wr s ∨ ∃ x ∈ l, ¬ x.2 < L.length) ∧ mW (mRow (mFn b e) none (n - j) l a') (fun r => ∀ s', gF [0, 7] s s' → cSt s' b e r.2 → (wr s' ↔ wr s ∨ ∃ x ∈ r.1, ¬ x.2 < L.length) → K s') (cEv s K)) ∨ (∃ kk p, m' = 0 ∧ cEr s2 kk p ∧ sQ s s2 ∧ cEv s K kk p)) :=
            fun s2 z1 z2 z3 => ⟨m - 1, by show m - 1 < m; omega, Or.inl ⟨n', j + 1, l ++ [(a', r.1)], r.2, by omega, rfl, nI_1 j, by omega, hn, z1, z2, z3, hw⟩⟩
          refine ⟨fun c => next s1 g1 hs1 ?_, fun c => ?_⟩
          · rw [w1, w]
            simp only [List.mem_append, List.mem_singleton]
            constructor
            · rintro (z | ⟨x, z1, z2⟩)
              · exact Or.inl z
              · exact Or.inr ⟨x, Or.inl z1, z2⟩
            · rintro (z | ⟨x, z1 | z1, z2⟩)
              · exact Or.inl z
              · exact Or.inr ⟨x, z1, z2⟩
              · rw [z1] at z2; exact absurd c z2
          · refine rd_noteWrong 12 a' hs1.v rfl (by decide) hs'.2.2.2.1 (by omega) (fun s2 g2 v2 w2 => next s2 (g1.trans (g2.mono (by decide))) (g2.st (by decide) (by decide) v2 hs1) ⟨fun _ => Or.inr ⟨(a', r.1), List.mem_append_right _ (List.mem_singleton.2 rfl), c⟩, fun _ => w2⟩)
        · have nx : ∀ z, sR s1 z → ∀ x2 x3 : Int32, ∃ m', zlt m' (some m) ∧ ((∃ n j l a', m' + j = 1000 ∧ x2 = nI n ∧ x3 = nI j ∧ j ≤ n ∧ n ≤ 256 ∧ gF [0, 7] s z ∧ cSt z b e a' ∧ (wr z ↔ wr s ∨ ∃ x ∈ l, ¬ x.2 < L.length) ∧ mW (mRow (mFn b e) none (n - j) l a') (fun r => ∀ s', gF [0, 7] s s' → cSt s' b e r.2 → (wr s' ↔ wr s ∨ ∃ x ∈ r.1, ¬ x.2 < L.length) → K s') (cEv s K)) ∨ (∃ kk p, m' = 0 ∧ cEr z kk p ∧ sQ s z ∧ cEv s K kk p)) :=
            fun z kz _ _ => ⟨0, by show 0 < m; omega, Or.inr ⟨kk, p, rfl, her.keep kz, ((g.q (by decide)).trans q1).trans kz.q, h2⟩⟩
          exact ⟨fun _ => nx s1 (sR.rf her.v) _ _, fun _ => sf_X2_noteWrong her.v (fun s3 k3 => nx s3 k3 _ _)⟩
    · unfold PX6_readRowOfFunctions_34
      exact ⟨fun _ => hE _ her q, fun _ => ⟨fun z => absurd z her.bad, fun _ => hE _ her q⟩⟩
  · unfold PX6_readRowOfFunctions_0
    rw [mW_bind] at h
    have er : ∀ kk p, ∀ z, cEr z kk p → sQ s z → cEv s K kk p → ∀ x2 x3 : Int32, ∃ m', zlt m' none ∧ ((∃ n j l a', m' + j = 1000 ∧ x2 = nI n ∧ x3 = nI j ∧ j ≤ n ∧ n ≤ 256 ∧ gF [0, 7] s z ∧ cSt z b e a' ∧ (wr z ↔ wr s ∨ ∃ x ∈ l, ¬ x.2 < L.length) ∧ mW (mRow (mFn b e) none (n - j) l a') (fun r => ∀ s', gF [0, 7] s s' → cSt s' b e r.2 → (wr s' ↔ wr s ∨ ∃ x ∈ r.1, ¬ x.2 < L.length) → K s') (cEv s K)) ∨ (∃ kk p, m' = 0 ∧ cEr z kk p ∧ sQ s z ∧ cEv s K kk p)) :=
      fun kk p z h1 h2 h3 _ _ => ⟨0, trivial, Or.inr ⟨kk, p, rfl, h1, h2, h3⟩⟩
    refine rd_rowLength hs (mW_mono h (fun r hr h s1 k1 hs1 => ?_) (fun k p hq h2 v s1 her q1 => ?_))
    · have c1 : nI (min r.1 16000) ≤ (256 : Int32) ↔ r.1 ≤ 256 := by
        rw [show (256 : Int32) = nI 256 from rfl, nI_leI (by omega) (by decide)]; omega
      rw [c1]
      refine ⟨fun c => ?_, fun c => ?_⟩
      · rw [if_neg (by omega)] at h
        refine ⟨1000, trivial, Or.inl ⟨r.1, 0, [], r.2, rfl, by rw [Nat.min_eq_left (by omega)], rfl, Nat.zero_le _, c, k1.g.mono (by decide), hs1, ?_, h⟩⟩
        rw [wr_q (k1.g.g (k := 7) (by decide))]
        exact ⟨fun z => Or.inl z, fun z => z.resolve_right (by rintro ⟨x, z, _⟩; cases z)⟩
      · rw [if_pos (by omega)] at h
        exact rd_fail 4 a hs1 (by decide) hs.2.2.2.1 (fun s3 her q3 => er 4 a s3 her (k1.q.trans q3) h _ _)
    · have nx : ∀ z, sR s1 z → _ := fun z kz => er k p z (her.keep kz) (q1.trans kz.q) h2
      exact ⟨fun _ => nx s1 (sR.rf her.v) _ _, fun _ => sf_X4_fail her.v (fun s3 k3 => nx s3 k3 _ _)⟩
