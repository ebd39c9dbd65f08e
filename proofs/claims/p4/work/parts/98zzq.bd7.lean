theorem rd_readInstruction {s : zS} {b : Nat → Nat} {e a k0 : Nat} {ow C : List Nat} {nd : Option Nat} {E : tE} {f : Bool} {t : tT} {K : zS → Prop} {QX : zS → Prop} (hs : cSt s b e a) (hd : s.1 5 5 = nI ow.length) (ho : owC s ow) (h60 : ow.length ≤ 60) (hnd : s.2 2 14 = optL nd) (hnd2 : ∀ m, nd = some m → m < 2 ^ 35) (hc : cdR s C) (hl : C.length < 16000) (h4 : s.2 6 4 = lN k0) (hf : s.1 4 6 = bI f) (hT : f = true → tER s E ∧ tS s t ∧ t.2.2 = true ∧ t.2.1.length = ow.length + 1 ∧ t.1.length + 1 < 16000)
    (h : mW (mIs b e nd ow a) (fun r => ∀ s', gF [0, 7, 11, 12, 13, 14] s s' → cSt s' b e r.2 → s'.1 22 0 = s.1 22 0 → owAft s' (mNx r.1.1 ow) → cdR s' (C ++ [r.1.1]) → (∀ i, s'.1 29 i = s.1 29 i ∧ s'.1 30 i = s.1 30 i ∧ s'.1 31 i = s.1 31 i) → (∃ k, s'.2 6 4 = lN k) → s'.1 4 6 = bI (f && (cStep E r.1.1 r.1.2.1 r.1.2.2 t).2.2) → (f = true → (cStep E r.1.1 r.1.2.1 r.1.2.2 t).2.2 = true → tyAft s' (mNx r.1.1 ow) (tTurn r.1.1 r.1.2.1 (cStep E r.1.1 r.1.2.1 r.1.2.2 t))) → (wr s' ↔ wr s ∨ (f = true ∧ (cStep E r.1.1 r.1.2.1 r.1.2.2 t).2.2 = false)) → K s') (cEv s K)) : zCT zZC zmX1_readInstruction [.ref 4] s (zQv K) QX := by
  have ha := hs.lt
  refine rX1_readInstruction ?_
  unfold PX1_readInstruction_0
  unfold mIs at h
  rw [mW_bind] at h
  refine rd_readNumber hs (mW_mono h (fun r hr h s1 g1 hs1 n2 n3 n4 => ?_) (fun k p hq h2 s1 her q1 => er_X1_readInstruction_0_0 her.v (h2.go q1 her)))
  obtain ⟨hop, hx⟩ := mNum_op hr
  rw [mW_bind] at h
  have m5 : s1.1 5 5 = nI ow.length := by rw [(g1.g (k := 13) (by decide) 5 5 rfl).1]; exact hd
  have mo : owC s1 ow := owC_q (fun i => (g1.g (k := 13) (by decide) 21 i rfl).1) ho
  have q1 := g1.q (by decide)
  refine rd_look hs1 n3 hx n2 m5 mo h60 (owC_0 mo) (by rw [(g1.g (k := 6) (by decide) 2 14 rfl).2]; exact hnd) hnd2 (mW_mono h (fun _ hlk h => ?_) (fun k p hq h2 s2 her q2 => er_X1_readInstruction_0_1 her.v (h2.go (q1.trans q2) her)))
  have hlk : (if (2 ≤ r.1 ∧ r.1 ≤ 4) ∧ ow.length = 60 then .error (4, a) else if r.1 = 5 ∧ ¬ ow.head? = some 4 then .error (1, a) else if (r.1 = 264 ∨ r.1 = 265) ∧ nd = none then .error (1, a) else .ok () : mE Unit) = .ok () := hlk
  have hl1 : 2 ≤ r.1 ∧ r.1 ≤ 4 → ow.length < 60 := fun z => by
    by_cases q : ow.length = 60
    · rw [if_pos ⟨z, q⟩] at hlk; cases hlk
    · omega
  have hl2 : r.1 = 5 → ow.head? = some 4 := fun z => by
    by_cases q : ow.head? = some 4
    · exact q
    · rw [if_neg (by omega), if_pos ⟨z, q⟩] at hlk; cases hlk
  have hT1 : ∀ u, gF [0, 14] s u → f = true → tER u E ∧ tS u t ∧ t.2.2 = true ∧ t.2.1.length = ow.length + 1 ∧ t.1.length + 1 < 16000 := fun u gu ff => by
    obtain ⟨x1, x2, x3⟩ := hT ff
    exact ⟨tER_g gu (by decide) (gu.g (k := 13) (by decide) 22 0 rfl).1 x1, tS_q (gu.g (by decide)) x2, x3⟩
  have c14 : nI r.1 = (14 : Int32) ↔ r.1 = 14 := nI_eq (b := 14) (by omega) (by decide)
  rw [n3, c14]
  -- what is asked of the state ahead of the tail stands in any state u behind the arguments
  have fin : ∀ (u : zS) (p v : Nat) (l : List Nat), gF [0, 14] s u → cSt u b e p → u.1 6 2 = nI a → u.1 6 3 = nI r.1 → argOk u r.1 v → (r.1 = 2 ∨ r.1 = 3 ∨ r.1 = 4 → v ≤ 2) → (r.1 = 14 → lbR u l) → (∀ s', gF [0, 7, 11, 12, 13, 14] s s' → cSt s' b e p → s'.1 22 0 = s.1 22 0 → owAft s' (mNx r.1 ow) → cdR s' (C ++ [r.1]) → (∀ i, s'.1 29 i = s.1 29 i ∧ s'.1 30 i = s.1 30 i ∧ s'.1 31 i = s.1 31 i) → (∃ k, s'.2 6 4 = lN k) → s'.1 4 6 = bI (f && (cStep E r.1 v l t).2.2) → (f = true → (cStep E r.1 v l t).2.2 = true → tyAft s' (mNx r.1 ow) (tTurn r.1 v (cStep E r.1 v l t))) → (wr s' ↔ wr s ∨ (f = true ∧ (cStep E r.1 v l t).2.2 = false)) → K s') → zCT zZC zmX0_addCode [.ref 8, .int (u.1 6 3)] u (zQv (fun s4 =>
              (((s4.1 4 6) = 0 →
                zCT zZC zmX1_turnFrames [.ref 4] s4 (zQv (fun s5 =>
                  zQv K none s5)) QX) ∧ (¬ (s4.1 4 6) = 0 →
                zCT zZC zmX7_isRight [.ref 7, .ref 6] s4 (zQi (fun r7 s6 =>
                  ((r7 = 0 →
                    zCT zZC zmX2_noteWrong [.ref 2, .int (15 : Int32), .int (s6.1 6 2)] s6 (zQv (fun s8 =>
                      ((0 : Int32) = 0 ∨ (0 : Int32) = 1) ∧ ∀ s9 : zS, s9 = zsI s8 4 6 (0 : Int32) →
                      zCT zZC zmX1_turnFrames [.ref 4] s9 (zQv (fun s10 =>
                        zQv K none s10)) QX)) QX) ∧ (¬ r7 = 0 →
                    zCT zZC zmX1_turnFrames [.ref 4] s6 (zQv (fun s11 =>
                      zQv K none s11)) QX)))) QX)))) QX := by
    intro u p v l gu hu u2 u3 hk hv2 hlb hK
    refine rd_insTail (a := a) (v := v) (p := p) (l := l) (E := E) (t := t) hu u2 (by omega) u3 hx hop (by rw [(gu.g (k := 13) (by decide) 5 5 rfl).1]; exact hd) (owC_q (fun i => (gu.g (k := 13) (by decide) 21 i rfl).1) ho) h60 (cdR_q (gu.g (by decide)) hc) hl hk hv2 hlb hl1 hl2 (by rw [(gu.g (k := 11) (by decide) 4 6 rfl).1]; exact hf) (hT1 u gu) (fun s' g' st' z22 oA cA q29 f' ty w' => ?_)
    refine hK s' ((gu.mono (by decide)).trans (g'.mono (by decide))) st' (z22.trans (gu.g (k := 13) (by decide) 22 0 rfl).1) oA cA (fun i => ⟨(q29 i).1.trans (gu.g (k := 12) (by decide) 29 i rfl).1, (q29 i).2.1.trans (gu.g (k := 12) (by decide) 30 i rfl).1, (q29 i).2.2.trans (gu.g (k := 12) (by decide) 31 i rfl).1⟩) ?_ f' ty (w'.trans (by rw [wr_q (gu.g (k := 7) (by decide))]))
    obtain ⟨k, k1, -⟩ := hk
    exact ⟨k, by rw [(g'.g (k := 14) (by decide) 6 4 rfl).2]; exact k1⟩
  refine ⟨fun q => ?_, fun q => ?_⟩
  · rw [if_pos q, mW_bind] at h
    refine rd_readLabels hs1 (mW_mono h (fun l hlab h s3 g3 hs3 hL3 r7 => ?_) (fun k p hq h2 s3 her q3 => er_X1_readInstruction_0_2 her.v (h2.go (q1.trans q3) her)))
    refine ⟨fun _ => ?_, fun z => absurd hs3.2.2.1 z⟩
    refine fin s3 l.2 0 l.1 (g1.trans g3) hs3 (r7.1.1.trans n2) (r7.1.2.trans n3) ⟨k0, by rw [r7.2, n4]; exact h4, fun z => ?_, fun z => by omega, fun z => ?_⟩ (fun z => by omega) (fun _ => hL3) h
    · rw [q] at z; cases z
    · rw [q] at z; cases z
  · rw [if_neg q, mW_bind] at h
    refine rd_readArguments hs1 n3 hx (by rw [n4]; exact h4) (mW_mono h (fun v harg h s3 g3 hs3 r6 hA => ?_) (fun k p hq h2 s3 her q3 => er_X1_readInstruction_0_9 her.v (h2.go (q1.trans q3) her)))
    refine ⟨fun _ => ?_, fun z => absurd hs3.2.2.1 z⟩
    refine fin s3 v.2 v.1 [] (g1.trans g3) hs3 (r6.1.trans n2) (r6.2.trans n3) hA (fun z => ?_) (fun z => absurd z q) h
    have harg : mArg b e r.1 r.2 = .ok v := harg
    unfold mArg at harg
    rw [if_pos z] at harg
    exact (mBt_in harg).2.2
