/-- functions, globals, tables, memories so far: L, G, nt, nm; cF and cG of them are imports -/
def cFx (s : zS) (n : Nat) (L : List Nat) (cF : Nat) (G : List (Nat × Nat)) (cG nt nm : Nat) : Prop := fnR s n L ∧ s.1 2 9 = nI cF ∧ glR s G ∧ s.1 2 13 = nI cG ∧ s.1 2 10 = nI nt ∧ s.1 2 11 = nI nm
theorem cFx_g {l : List Nat} {σ s : zS} {n : Nat} {L : List Nat} {cF : Nat} {G : List (Nat × Nat)} {cG nt nm : Nat} (h : gF l σ s) (h2 : ¬ 2 ∈ l) (h3 : ¬ 3 ∈ l) (h4 : ¬ 4 ∈ l) (h5 : ¬ 5 ∈ l) (q : cFx σ n L cF G cG nt nm) : cFx s n L cF G cG nt nm := by
  obtain ⟨q1, q2, q3, q4, q5, q6⟩ := q
  exact ⟨fnR_q (h.g h2) q1, by rw [(h.g h2 2 9 rfl).1]; exact q2, glR_q (h.g h3) q3, by rw [(h.g h3 2 13 rfl).1]; exact q4, by rw [(h.g h4 2 10 rfl).1]; exact q5, by rw [(h.g h5 2 11 rfl).1]; exact q6⟩
/-- what an import shows to be wrong -/
def impBad (n nt nm : Nat) (x : mImpT) : Prop := (x.2.1 = 0 ∧ ¬ x.2.2.2.1 < n) ∨ (x.2.1 = 1 ∧ (¬ mRight true x.2.2.2.2.2.1 x.2.2.2.2.2.2 = true ∨ 1 < nt + 1)) ∨ (x.2.1 = 2 ∧ (¬ mRight false x.2.2.2.2.2.1 x.2.2.2.2.2.2 = true ∨ 1 < nm + 1))
theorem rd_import {s : zS} {b : Nat → Nat} {e a n cF cG nt nm : Nat} {L : List Nat} {G : List (Nat × Nat)} {K : zS → Prop} {QX : zS → Prop} (hs : cSt s b e a) (hx : cFx s n L cF G cG nt nm) (hl : L.length < 96) (hG : G.length < 64) (hn : s.1 18 1 = nI n) (hn2 : n ≤ 64) (hcF : cF < 2 ^ 30) (hcG : cG < 2 ^ 30) (hnt : nt < 2 ^ 30) (hnm : nm < 2 ^ 30)
    (h : mW (mImp b e a) (fun r => ∀ s', gF [0, 2, 3, 4, 5, 7] s s' → cSt s' b e r.2 → cFx s' n (if r.1.2.1 = 0 then L ++ [r.1.2.2.2.1] else L) (if r.1.2.1 = 0 then cF + 1 else cF) (if r.1.2.1 = 3 then G ++ [(r.1.2.2.2.1, r.1.2.2.2.2.1)] else G) (if r.1.2.1 = 3 then cG + 1 else cG) (if r.1.2.1 = 1 then nt + 1 else nt) (if r.1.2.1 = 2 then nm + 1 else nm) → (wr s' ↔ wr s ∨ impBad n nt nm r.1) → K s') (cEv s K)) : zCT zZC zmX6_readImport [.ref 3] s (zQv K) QX := by
  have ha := hs.lt
  refine rX6_readImport ?_
  unfold PX6_readImport_0
  unfold mImp at h
  rw [mW_bind] at h
  refine rd_outerName hs (mW_mono h (fun m1 hm1 h s1 k1 hs1 => ?_) (fun k p hq h2 v s1 her q1 => er_X6_readImport_0_0 her.v (h2.go q1 her)))
  rw [mW_bind] at h
  refine rd_outerName hs1 (mW_mono h (fun m2 hm2 h s2 k2 hs2 => ?_) (fun k p hq h2 v s2 her q2 => er_X6_readImport_0_1 her.v (h2.go (k1.q.trans q2) her)))
  rw [mW_bind] at h
  refine rd_octetWithin 0 3 hs2 rfl rfl (by decide) (by decide) ?_
  unfold mOw
  rw [mW_bind]
  refine mW_mono h (fun kd hkd h => ?_) (fun k p hq h2 v s3 her q3 => er_X6_readImport_0_2 her.v (h2.go ((k1.trans k2).q.trans q3) her))
  by_cases q3 : 3 < kd.1
  · rw [if_pos q3] at h
    rw [if_neg (by omega)]
    exact fun v s3 her q3 => er_X6_readImport_0_2 her.v (cEv.go (k := 1) (p := m2.2) h ((k1.trans k2).q.trans q3) her)
  · rw [if_neg q3] at h
    rw [if_pos ⟨Nat.zero_le _, by omega⟩]
    intro s3 k3 hs3
    have hk := (k1.trans k2).trans k3
    have g3 := hk.g
    have x3 := cFx_g g3 (by decide) (by decide) (by decide) (by decide) hx
    have n3 : s3.1 18 1 = nI n := by rw [(g3.g (k := 8) (by decide) 18 1 rfl).1]; exact hn
    have w3 := wr_q (g3.g (k := 7) (by decide))
    obtain ⟨y1, y2, y3, y4, y5, y6⟩ := x3
    have c0 : nI kd.1 = (0 : Int32) ↔ kd.1 = 0 := nI_eq (b := 0) (by omega) (by decide)
    have c1 : nI kd.1 = (1 : Int32) ↔ kd.1 = 1 := nI_eq (b := 1) (by omega) (by decide)
    have c2 : nI kd.1 = (2 : Int32) ↔ kd.1 = 2 := nI_eq (b := 2) (by omega) (by decide)
    rw [c0, c1, c2]
    refine ⟨fun q => ?_, fun q0 => ⟨fun q => ?_, fun q1 => ⟨fun q => ?_, fun q2 => ?_⟩⟩⟩
    · rw [if_pos q, mW_bind] at h
      refine rd_fn 0 hs3 rfl (by decide) y1 hl n3 hn2 (mW_mono h (fun u hu h s4 g4 hs4 f4 e9 w4 => ?_) (fun k p hq h2 s4 her q4 => er_X6_readImport_0_3 her.v (h2.go (hk.q.trans q4) her)))
      intro s5 e5
      have v5 : sR s4 s5 := by rw [e5]; exact (sR.rf hs4.v).i _ (by omega)
      have g5 : gF [2] s4 s5 := by rw [e5]; exact gF.rf.i _ (gmem (k := 2) rfl (by decide))
      have e95 : s5.1 2 9 = nI (cF + 1) := by rw [e5, zI1, if_pos ⟨rfl, rfl⟩, e9, y2, nI_1]
      have f5 : fnR s5 n (L ++ [u.1]) := ⟨f4.1, by rw [e5, zI1, if_neg (by omega)]; exact f4.2.1, fun i x hx => by rw [e5, zI1, if_neg (by omega)]; exact f4.2.2 i x hx⟩
      have g35 : gF [0, 2, 7] s3 s5 := g4.trans (g5.mono (by decide))
      refine h s5 ((g3.mono (by decide)).trans (g35.mono (by decide))) (g5.st (by decide) (by decide) v5.2 hs4) ?_ ?_
      · refine ⟨f5, e95, glR_q (g35.g (by decide)) y3, ?_, ?_, ?_⟩
        · rw [(g35.g (k := 3) (by decide) 2 13 rfl).1]; exact y4
        · rw [(g35.g (k := 4) (by decide) 2 10 rfl).1]; exact y5
        · rw [(g35.g (k := 5) (by decide) 2 11 rfl).1]; exact y6
      · rw [wr_q (g5.g (k := 7) (by decide)), w4, w3]
        constructor
        · rintro (z | z)
          · exact Or.inl z
          · exact Or.inr (Or.inl ⟨rfl, z⟩)
        · rintro (z | z | z | z)
          · exact Or.inl z
          · exact Or.inr z.2
          · exact absurd z.1 (show ¬ (0 : Nat) = 1 by decide)
          · exact absurd z.1 (show ¬ (0 : Nat) = 2 by decide)
    · rw [if_neg q0, if_neg (by omega), if_pos q, mW_bind] at h
      refine rd_need 112 hs3 rfl rfl (by decide) (mW_mono h (fun p hp h s4 k4 hs4 => ?_) (fun k p hq h2 v s4 her q4 => er_X6_readImport_0_4 her.v (h2.go (hk.q.trans q4) her)))
      rw [mW_bind] at h
      refine rd_limits 0 true hs4 rfl (by decide) rfl (mW_mono h (fun l hl2 h s5 g5 hs5 w5 => ?_) (fun k p hq h2 s5 her q5 => er_X6_readImport_0_5 her.v (h2.go ((hk.trans k4).q.trans q5) her)))
      have g35 : gF [0, 7] s3 s5 := (k4.g.mono (by decide)).trans g5
      have n5 : s5.1 2 10 = nI nt := by rw [(g35.g (k := 4) (by decide) 2 10 rfl).1]; exact y5
      refine rd_addTable hs5.v n5 hnt hs.2.2.2.1 (by omega) (fun s6 g6 v6 n6 w6 => ?_)
      have g36 : gF [0, 4, 7] s3 s6 := (g35.mono (by decide)).trans (g6.mono (by decide))
      refine h s6 ((g3.mono (by decide)).trans (g36.mono (by decide))) (g6.st (by decide) (by decide) v6 hs5) ?_ ?_
      · refine ⟨fnR_q (g36.g (by decide)) y1, ?_, glR_q (g36.g (by decide)) y3, ?_, n6, ?_⟩
        · rw [(g36.g (k := 2) (by decide) 2 9 rfl).1]; exact y2
        · rw [(g36.g (k := 3) (by decide) 2 13 rfl).1]; exact y4
        · rw [(g36.g (k := 5) (by decide) 2 11 rfl).1]; exact y6
      · rw [w6, w5, wr_q (k4.g.g (k := 7) (by decide)), w3, or_assoc]
        constructor
        · rintro (z | z)
          · exact Or.inl z
          · exact Or.inr (Or.inr (Or.inl ⟨rfl, z⟩))
        · rintro (z | z | z | z)
          · exact Or.inl z
          · exact absurd z.1 (show ¬ (1 : Nat) = 0 by decide)
          · exact Or.inr z.2
          · exact absurd z.1 (show ¬ (1 : Nat) = 2 by decide)
    · rw [if_neg q0, if_neg (by omega), if_neg q1, mW_bind] at h
      refine rd_limits 0 false hs3 rfl (by decide) rfl (mW_mono h (fun l hl2 h s5 g5 hs5 w5 => ?_) (fun k p hq h2 s5 her q5 => er_X6_readImport_0_7 her.v (h2.go (hk.q.trans q5) her)))
      have n5 : s5.1 2 11 = nI nm := by rw [(g5.g (k := 5) (by decide) 2 11 rfl).1]; exact y6
      refine rd_addMemory hs5.v n5 hnm hs.2.2.2.1 (by omega) (fun s6 g6 v6 n6 w6 => ?_)
      have g36 : gF [0, 5, 7] s3 s6 := (g5.mono (by decide)).trans (g6.mono (by decide))
      refine h s6 ((g3.mono (by decide)).trans (g36.mono (by decide))) (g6.st (by decide) (by decide) v6 hs5) ?_ ?_
      · refine ⟨fnR_q (g36.g (by decide)) y1, ?_, glR_q (g36.g (by decide)) y3, ?_, ?_, n6⟩
        · rw [(g36.g (k := 2) (by decide) 2 9 rfl).1]; exact y2
        · rw [(g36.g (k := 3) (by decide) 2 13 rfl).1]; exact y4
        · rw [(g36.g (k := 4) (by decide) 2 10 rfl).1]; exact y5
      · rw [w6, w5, w3, or_assoc]
        constructor
        · rintro (z | z)
          · exact Or.inl z
          · exact Or.inr (Or.inr (Or.inr ⟨rfl, z⟩))
        · rintro (z | z | z | z)
          · exact Or.inl z
          · exact absurd z.1 (show ¬ (2 : Nat) = 0 by decide)
          · exact absurd z.1 (show ¬ (2 : Nat) = 1 by decide)
          · exact Or.inr z.2
    · rw [if_neg q0, if_pos (by omega), mW_bind] at h
      refine rd_type hs3 (mW_mono h (fun t ht h s4 k4 hs4 ht1 => ?_) (fun k p hq h2 v s4 her q4 => er_X6_readImport_0_9 her.v (h2.go (hk.q.trans q4) her)))
      rw [mW_bind] at h
      refine rd_flag hs4 (mW_mono h (fun f hf h s5 k5 hs5 hf1 => ?_) (fun k p hq h2 v s5 her q5 => er_X6_readImport_0_10 her.v (h2.go ((hk.trans k4).q.trans q5) her)))
      have c5 : nI f.1 = (1 : Int32) ↔ f.1 = 1 := nI_eq (b := 1) (by omega) (by decide)
      rw [c5]
      have g5 := (k4.trans k5).g
      have y35 := glR_q (g5.g (k := 3) (by decide)) y3
      have fin : ∀ ci : Int32, ci = nI f.1 → zCT zZC zmX2_addGlobal [.ref 2, .int (nI (127 - t.1)), .int ci] s5 (zQv (fun s6 => ∀ s7 : zS, s7 = zsI s6 2 13 ((s6.1 2 13) + (1 : Int32)) → zQv K none s7)) QX := by
        intro ci hci
        refine rd_addGlobal hs5.v y35 hG ht1 hf1 (by rw [tyN1 ht1]) hci (fun s6 g6 v6 r6 m6 s7 e7 => ?_)
        have v7 : sR s6 s7 := by rw [e7]; exact (sR.rf v6).i _ (by omega)
        have g7 : gF [3] s6 s7 := by rw [e7]; exact gF.rf.i _ (gmem (k := 3) rfl (by decide))
        have m5 : s5.1 2 13 = nI cG := by rw [(g5.g (k := 3) (by decide) 2 13 rfl).1]; exact y4
        have e137 : s7.1 2 13 = nI (cG + 1) := by rw [e7, zI1, if_pos ⟨rfl, rfl⟩, m6, m5, nI_1]
        have r7 : glR s7 (G ++ [(t.1, f.1)]) := ⟨r6.1, by rw [e7, zI1, if_neg (by omega)]; exact r6.2.1, fun i x hx => by
          obtain ⟨z1, z2, z3, z4⟩ := r6.2.2 i x hx
          exact ⟨z1, z2, by rw [e7, zI1, if_neg (by omega)]; exact z3, by rw [e7, zI1, if_neg (by omega)]; exact z4⟩⟩
        have g37 : gF [0, 3] s3 s7 := ((g5.mono (by decide)).trans (g6.mono (by decide))).trans (g7.mono (by decide))
        refine h s7 ((g3.mono (by decide)).trans (g37.mono (by decide))) (g7.st (by decide) (by decide) v7.2 (g6.st (by decide) (by decide) v6 hs5)) ?_ ?_
        · refine ⟨fnR_q (g37.g (by decide)) y1, ?_, r7, e137, ?_, ?_⟩
          · rw [(g37.g (k := 2) (by decide) 2 9 rfl).1]; exact y2
          · rw [(g37.g (k := 4) (by decide) 2 10 rfl).1]; exact y5
          · rw [(g37.g (k := 5) (by decide) 2 11 rfl).1]; exact y6
        · rw [wr_q (g37.g (k := 7) (by decide)), w3]
          constructor
          · exact fun z => Or.inl z
          · rintro (z | z | z | z)
            · exact z
            · exact absurd z.1 (show ¬ (3 : Nat) = 0 by decide)
            · exact absurd z.1 (show ¬ (3 : Nat) = 1 by decide)
            · exact absurd z.1 (show ¬ (3 : Nat) = 2 by decide)
      exact ⟨fun c => fin 1 (by rw [c]; rfl), fun c => fin 0 (by rw [show f.1 = 0 by omega]; rfl)⟩
