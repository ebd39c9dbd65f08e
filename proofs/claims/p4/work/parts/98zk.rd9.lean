/-- what an element segment shows to be wrong -/
def elBad (G : List (Nat × Nat)) (m nt nf : Nat) (b : Nat → Nat) (e : Nat) (x : mElT) : Prop := (x.2.1 = 0 ∧ (nt = 0 ∨ ¬ kCst G m b e x.2.2.1 0)) ∨ ∃ y ∈ x.2.2.2.2, ¬ y.2 < nf
theorem rd_element {s : zS} {b : Nat → Nat} {e a n m nt : Nat} {L : List Nat} {G : List (Nat × Nat)} {K : zS → Prop} {QX : zS → Prop} (hs : cSt s b e a) (hf : fnR s n L) (hg : glR s G) (hm : s.1 2 13 = nI m) (hm2 : m ≤ G.length) (ht : s.1 2 10 = nI nt) (ht2 : nt < 2 ^ 30)
    (h : mW (mEl b e a) (fun r => ∀ s', gF [0, 7] s s' → cSt s' b e r.2 → (wr s' ↔ wr s ∨ elBad G m nt L.length b e r.1) → K s') (cEv s K)) : zCT zZC zmX6_readElement [.ref 3] s (zQv K) QX := by
  have ha := hs.lt
  refine rX6_readElement ?_
  unfold PX6_readElement_0
  unfold mEl at h
  rw [mW_bind] at h
  refine rd_octet hs (mW_mono h (fun r hr h s1 k1 hs1 => ?_) (fun k p hq h2 v s1 her q1 => er_X6_readElement_0_0 her.v (h2.go q1 her)))
  obtain ⟨hlt, rfl⟩ := mOct_in hr
  have hba := (hs.1 a (by have := hs.2.1; omega)).1
  have g1 := k1.g
  have w1 := wr_q (g1.g (k := 7) (by decide))
  have c0 : nI (b a) = (0 : Int32) ↔ b a = 0 := nI_eq (b := 0) (by omega) (by decide)
  have c1 : nI (b a) = (1 : Int32) ↔ b a = 1 := nI_eq (b := 1) (by omega) (by decide)
  have c3 : nI (b a) = (3 : Int32) ↔ b a = 3 := nI_eq (b := 3) (by omega) (by decide)
  have ct : (s1.1 2 10) = (0 : Int32) ↔ nt = 0 := by rw [(g1.g (k := 4) (by decide) 2 10 rfl).1, ht]; exact nI_eq (b := 0) (by omega) (by decide)
  have h : mW (if ¬ (b a = 0 ∨ b a = 1 ∨ b a = 3) then .error (1, a) else (if b a = 0 then mConst b e (a + 1) else mNeed b e 0 (a + 1)).bind fun p => (mU b e p).bind fun n => if 256 < n.1 then .error (4, p) else (mRow (mFn b e) none n.1 [] n.2).bind fun l => .ok ((a, b a, a + 1, n.2, l.1), l.2) : mE (mElT × Nat)) (fun r => ∀ s', gF [0, 7] s s' → cSt s' b e r.2 → (wr s' ↔ wr s ∨ elBad G m nt L.length b e r.1) → K s') (cEv s K) := h
  -- the row
  have row : ∀ (B : Prop) (p : Nat) (s2 : zS), gF [0, 7] s s2 → cSt s2 b e p → (wr s2 ↔ wr s ∨ B) → (B ↔ b a = 0 ∧ (nt = 0 ∨ ¬ kCst G m b e (a + 1) 0)) → mW ((mU b e p).bind fun n => if 256 < n.1 then .error (4, p) else (mRow (mFn b e) none n.1 [] n.2).bind fun l => .ok ((a, b a, a + 1, n.2, l.1), l.2) : mE (mElT × Nat)) (fun r => ∀ s', gF [0, 7] s s' → cSt s' b e r.2 → (wr s' ↔ wr s ∨ elBad G m nt L.length b e r.1) → K s') (cEv s K) → zCT zZC zmX6_readRowOfFunctions [.ref 3] s2 (zQv K) QX := by
    intro B p s2 g2 hs2 w2 hB h
    refine rd_rowF hs2 (fnR_q (g2.g (by decide)) hf) ?_
    rw [mW_bind] at h ⊢
    refine mW_mono h (fun n hn h => ?_) (fun k p _ h2 => h2.to (g2.q (by decide)))
    by_cases q : 256 < n.1
    · rw [if_pos q] at h ⊢
      exact cEv.to h (g2.q (by decide))
    · rw [if_neg q] at h ⊢
      rw [mW_bind] at h
      refine mW_mono h (fun l hl h s3 g3 hs3 w3 => ?_) (fun k p _ h2 => h2.to (g2.q (by decide)))
      refine h s3 (g2.trans g3) hs3 ?_
      rw [w3, w2, or_assoc, hB]
      exact Iff.rfl
  rw [c0, ct]
  have con : ∀ s2, gF [0, 7] s s2 → cSt s2 b e (a + 1) → (wr s2 ↔ wr s ∨ nt = 0) → b a = 0 → zCT zZC zmX6_readConstant [.ref 3, .int (11 : Int32), .int (127 : Int32)] s2 (zQv (fun s4 => zCT zZC zmX6_readRowOfFunctions [.ref 3] s4 (zQv (fun s5 => zQv K none s5)) QX)) QX := by
    intro s2 g2 hs2 w2 cb
    rw [if_neg (by omega), if_pos cb, mW_bind] at h
    refine rd_constant 11 hs2 (glR_q (g2.g (by decide)) hg) (by rw [(g2.g (k := 3) (by decide) 2 13 rfl).1]; exact hm) hm2 rfl (by decide) (show (127 : Int32) = nI (tyN 0) from rfl) (by decide) (mW_mono h (fun p hp h s3 g3 hs3 w3 => ?_) (fun k p hq h2 s3 her q3 => er_X6_readElement_0_4 her.v (h2.go ((g2.q (by decide)).trans q3) her)))
    exact row (nt = 0 ∨ ¬ kCst G m b e (a + 1) 0) p s3 (g2.trans g3) hs3 (by rw [w3, w2, or_assoc]) ⟨fun z => ⟨cb, z⟩, fun z => z.2⟩ h
  refine ⟨fun cb => ⟨fun c => ?_, fun c => ?_⟩, fun cb => ⟨fun cz => ?_, fun cz => ?_⟩⟩
  · refine rd_noteWrong 10 a hs1.v rfl (by decide) hs.2.2.2.1 (by omega) (fun s2 g2 v2 w2 => con s2 ((g1.mono (by decide)).trans (g2.mono (by decide))) (g2.st (by decide) (by decide) v2 hs1) ⟨fun _ => Or.inr c, fun _ => w2⟩ cb)
  · exact con s1 (g1.mono (by decide)) hs1 (by rw [w1]; exact ⟨fun z => Or.inl z, fun z => z.resolve_right c⟩) cb
  · have cz2 : b a = 1 ∨ b a = 3 := by
      rcases cz with z | z
      · exact Or.inl (c1.1 z)
      · exact Or.inr (c3.1 z)
    rw [if_neg (by omega), if_neg cb, mW_bind] at h
    refine rd_need 0 hs1 rfl rfl (by decide) (mW_mono h (fun p hp h s3 k3 hs3 => ?_) (fun k p hq h2 v s3 her q3 => er_X6_readElement_0_6 her.v (h2.go (k1.q.trans q3) her)))
    exact row False p s3 ((k1.trans k3).g.mono (by decide)) hs3 (by rw [wr_q ((k1.trans k3).g.g (k := 7) (by decide))]; exact ⟨fun z => Or.inl z, fun z => z.resolve_right id⟩) ⟨fun z => z.elim, fun z => cb z.1⟩ h
  · have cz2 : ¬ (b a = 1 ∨ b a = 3) := fun z => cz (z.elim (fun z => Or.inl (c1.2 z)) (fun z => Or.inr (c3.2 z)))
    rw [if_pos (by omega)] at h
    exact rd_fail 1 a hs1 (by decide) hs.2.2.2.1 (fun s3 her q3 => er_X6_readElement_0_8 her.v (cEv.go (k := 1) (p := a) h (k1.q.trans q3) her))
def dtBad (G : List (Nat × Nat)) (m nm : Nat) (b : Nat → Nat) (e : Nat) (x : mDtT) : Prop := x.2.1 = 0 ∧ (nm = 0 ∨ ¬ kCst G m b e x.2.2 0)
theorem rd_data {s : zS} {b : Nat → Nat} {e a m nm : Nat} {G : List (Nat × Nat)} {K : zS → Prop} {QX : zS → Prop} (hs : cSt s b e a) (hg : glR s G) (hm : s.1 2 13 = nI m) (hm2 : m ≤ G.length) (ht : s.1 2 11 = nI nm) (ht2 : nm < 2 ^ 30)
    (h : mW (mDt b e a) (fun r => ∀ s', gF [0, 7] s s' → cSt s' b e r.2 → (wr s' ↔ wr s ∨ dtBad G m nm b e r.1) → K s') (cEv s K)) : zCT zZC zmX6_readData [.ref 3] s (zQv K) QX := by
  have ha := hs.lt
  refine rX6_readData ?_
  unfold PX6_readData_0
  have key : mDt b e a = (mFlag b e a).bind fun k => (if k.1 = 0 then mConst b e k.2 else .ok k.2 : mE Nat).bind fun p => (mLen b e p).bind fun n => .ok ((a, k.1, k.2), n.2 + n.1) := by
    unfold mDt mFlag mLen
    cases mOct b e a with
    | error q => rfl
    | ok k =>
      show (if 1 < k.1 then (.error (1, a) : mE (mDtT × Nat)) else _) = Except.bind (if k.1 ≤ 1 then (.ok k : mE (Nat × Nat)) else .error (1, a)) _
      by_cases q : 1 < k.1
      · rw [if_pos q, if_neg (show ¬ k.1 ≤ 1 by omega)]; rfl
      · rw [if_neg q, if_pos (show k.1 ≤ 1 by omega)]
        refine congrArg (fun f => Except.bind (if k.1 = 0 then mConst b e k.2 else .ok k.2 : mE Nat) f) (funext fun p => ?_)
        cases mU b e p with
        | error q => rfl
        | ok n =>
          show (if e - n.2 < n.1 then (.error (1, p) : mE (mDtT × Nat)) else _) = Except.bind (if e - n.2 < n.1 then (.error (1, p) : mE (Nat × Nat)) else .ok n) _
          by_cases q : e - n.2 < n.1
          · rw [if_pos q, if_pos q]; rfl
          · rw [if_neg q, if_neg q]; rfl
  rw [key, mW_bind] at h
  refine rd_flag hs (mW_mono h (fun k hk h s1 k1 hs1 hk1 => ?_) (fun k p hq h2 v s1 her q1 => er_X6_readData_0_0 her.v (h2.go q1 her)))
  have g1 := k1.g
  have w1 := wr_q (g1.g (k := 7) (by decide))
  have c0 : nI k.1 = (0 : Int32) ↔ k.1 = 0 := nI_eq (b := 0) (by omega) (by decide)
  have ct : (s1.1 2 11) = (0 : Int32) ↔ nm = 0 := by rw [(g1.g (k := 5) (by decide) 2 11 rfl).1, ht]; exact nI_eq (b := 0) (by omega) (by decide)
  rw [mW_bind] at h
  rw [c0, ct]
  have last : ∀ (p : Nat) (s2 : zS), gF [0, 7] s s2 → cSt s2 b e p → (wr s2 ↔ wr s ∨ dtBad G m nm b e (a, k.1, k.2)) → mW ((mLen b e p).bind fun n => .ok ((a, k.1, k.2), n.2 + n.1) : mE (mDtT × Nat)) (fun r => ∀ s', gF [0, 7] s s' → cSt s' b e r.2 → (wr s' ↔ wr s ∨ dtBad G m nm b e r.1) → K s') (cEv s K) → zCT zZC zmX4_length [.ref 1] s2 (zQi (fun r6 s5 => ∀ s7 : zS, s7 = zsI s5 1 2 ((s5.1 1 2) + r6) → zQv K none s7)) QX := by
    intro p s2 g2 hs2 w2 h
    rw [mW_bind] at h
    refine rd_length hs2 (mW_mono h (fun n hn h s3 k3 hs3 => ?_) (fun k p hq h2 v s3 her q3 => er_X6_readData_0_6 her.v (h2.go ((g2.q (by decide)).trans q3) her)))
    intro s7 e7
    have hin : n.1 ≤ e - n.2 := by
      unfold mLen at hn
      cases hu : mU b e p with
      | error q => rw [hu] at hn; cases hn
      | ok u =>
        rw [hu] at hn
        have hn : (if e - u.2 < u.1 then (.error (1, p) : mE (Nat × Nat)) else .ok u) = .ok n := hn
        by_cases q : e - u.2 < u.1
        · rw [if_pos q] at hn; cases hn
        · rw [if_neg q] at hn; cases hn; omega
    have hle := hs3.2.2.2.2.2.1
    rw [hs3.2.2.2.1, nI_add] at e7
    have k4 : fK s3 s7 := by rw [e7]; exact fK.rf.i _ (by omega)
    refine h s7 ((g2.trans (k3.g.mono (by decide))).trans (k4.g.mono (by decide))) (by rw [e7]; exact hs3.at (by omega)) ?_
    rw [wr_q ((k3.trans k4).g.g (k := 7) (by decide)), w2]
  have con : ∀ s2, gF [0, 7] s s2 → cSt s2 b e k.2 → (wr s2 ↔ wr s ∨ nm = 0) → k.1 = 0 → zCT zZC zmX6_readConstant [.ref 3, .int (14 : Int32), .int (127 : Int32)] s2 (zQv (fun s4 => zCT zZC zmX4_length [.ref 1] s4 (zQi (fun r6 s5 => ∀ s7 : zS, s7 = zsI s5 1 2 ((s5.1 1 2) + r6) → zQv K none s7)) QX)) QX := by
    intro s2 g2 hs2 w2 cb
    rw [if_pos cb] at h
    refine rd_constant 14 hs2 (glR_q (g2.g (by decide)) hg) (by rw [(g2.g (k := 3) (by decide) 2 13 rfl).1]; exact hm) hm2 rfl (by decide) (show (127 : Int32) = nI (tyN 0) from rfl) (by decide) (mW_mono h (fun p hp h s3 g3 hs3 w3 => ?_) (fun k p hq h2 s3 her q3 => er_X6_readData_0_4 her.v (h2.go ((g2.q (by decide)).trans q3) her)))
    refine last p s3 (g2.trans g3) hs3 ?_ h
    rw [w3, w2, or_assoc]
    constructor
    · rintro (z | z)
      · exact Or.inl z
      · exact Or.inr ⟨cb, z⟩
    · rintro (z | z)
      · exact Or.inl z
      · exact Or.inr z.2
  refine ⟨fun cb => ⟨fun c => ?_, fun c => ?_⟩, fun cb => ?_⟩
  · refine rd_noteWrong 13 a hs1.v rfl (by decide) hs.2.2.2.1 (by omega) (fun s2 g2 v2 w2 => con s2 ((g1.mono (by decide)).trans (g2.mono (by decide))) (g2.st (by decide) (by decide) v2 hs1) ⟨fun _ => Or.inr c, fun _ => w2⟩ cb)
  · exact con s1 (g1.mono (by decide)) hs1 (by rw [w1]; exact ⟨fun z => Or.inl z, fun z => z.resolve_right c⟩) cb
  · rw [if_neg cb] at h
    exact last k.2 s1 (g1.mono (by decide)) hs1 (by rw [w1]; exact ⟨fun z => Or.inl z, fun z => z.resolve_right (fun z => cb z.1)⟩) h
