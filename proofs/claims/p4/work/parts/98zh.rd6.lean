theorem cSt.lt {s : zS} {b : Nat → Nat} {e a : Nat} (h : cSt s b e a) : a ≤ 16000 := by
  have := h.2.1; have := h.2.2.2.2.2.1; omega
/-- limits: noted where they are wrong -/
theorem rd_limits {s : zS} {b : Nat → Nat} {e a : Nat} (k : Nat) (tab : Bool) {o m : Int32} {K : zS → Prop} {QX : zS → Prop} (hs : cSt s b e a) (ho : o = nI k) (hk : k < 16) (hm : m = bI (!tab)) (h : mW (mLim b e a) (fun r => ∀ s', gF [0, 7] s s' → cSt s' b e r.2 → (wr s' ↔ wr s ∨ ¬ mRight tab r.1.1 r.1.2 = true) → K s') (cEv s K)) : zCT zZC zmX6_readLimits [.ref 3, .int o, .int m] s (zQv K) QX := by
  have ha := hs.lt
  refine rX6_readLimits ?_
  unfold PX6_readLimits_0
  unfold mLim at h
  rw [mW_bind] at h
  have cm : m = 0 ↔ tab = true := by
    rw [hm]
    cases tab
    · exact ⟨fun z => absurd z (by decide), fun z => absurd z (by decide)⟩
    · exact ⟨fun _ => rfl, fun _ => rfl⟩
  -- both limits are read
  have fin : ∀ (least : Nat) (most : Option Nat) (p : Nat) (s1 : zS), fK s s1 → cSt s1 b e p → (∀ s', gF [0, 7] s s' → cSt s' b e p → (wr s' ↔ wr s ∨ ¬ mRight tab least most = true) → K s') →
      (mRight tab least most = true → K s1) ∧ (¬ mRight tab least most = true → zCT zZC zmX2_noteWrong [.ref 2, .int o, .int (s.1 1 2)] s1 (zQv K) QX) := by
    intro least most p s1 k1 hs1 h
    have g1 := k1.g
    have w1 := wr_q (g1.g (k := 7) (by decide))
    refine ⟨fun q => h s1 (g1.mono (by decide)) hs1 (by rw [w1]; exact ⟨fun z => Or.inl z, fun z => z.resolve_right (fun z => z q)⟩), fun q => ?_⟩
    exact rd_noteWrong k a hs1.v ho hk hs.2.2.2.1 (by omega) (fun s2 g2 v2 w2 => h s2 ((g1.mono (by decide)).trans (g2.mono (by decide))) (g2.st (by decide) (by decide) v2 hs1) ⟨fun _ => Or.inr q, fun _ => w2⟩)
  refine rd_flag hs (mW_mono h (fun r hr h s1 k1 hs1 hr1 => ?_) (fun k p hq h2 v s1 her q1 => er_X6_readLimits_0_0 her.v (h2.go q1 her)))
  have c1 : nI r.1 = (1 : Int32) ↔ r.1 = 1 := nI_eq (b := 1) (by omega) (by decide)
  rw [c1]
  rw [mW_bind] at h
  refine ⟨fun c => ?_, fun c => ?_⟩
  · refine rd_number hs1 (mW_mono h (fun q hq h s2 k2 hs2 => ?_) (fun k p hq h2 v s2 her q2 => er_X6_readLimits_0_1 her.v (h2.go (k1.q.trans q2) her)))
    have hq35 := mU_lt hq
    refine ⟨fun z => absurd z (by decide), fun _ => ?_⟩
    rw [if_pos c, mW_bind] at h
    refine rd_number hs2 (mW_mono h (fun t ht h s3 k3 hs3 => ?_) (fun k p hq h2 v s3 her q3 => er_X6_readLimits_0_4 her.v (h2.go ((k1.trans k2).q.trans q3) her)))
    have ht35 := mU_lt ht
    have f := fin q.1 (some t.1) t.2 s3 ((k1.trans k2).trans k3) hs3 h
    have c2 : lN t.1 < lN q.1 ↔ t.1 < q.1 := lN_ltB (by omega) (by omega)
    have c3 : lN t.1 ≤ (65536 : Int64) ↔ t.1 ≤ 65536 := lN_leB (b := 65536) (by omega) (by decide)
    have em : mRight tab q.1 (some t.1) = true ↔ q.1 ≤ t.1 ∧ (tab = true ∨ (q.1 ≤ 65536 ∧ t.1 ≤ 65536)) := by
      unfold mRight
      simp
    rw [c2, c3, cm]
    refine ⟨fun c => f.2 (by rw [em]; omega), fun c => ⟨fun c4 => f.1 (by rw [em]; exact ⟨by omega, Or.inl c4⟩), fun c4 => ⟨fun c5 => f.1 (by rw [em]; exact ⟨by omega, Or.inr ⟨by omega, c5⟩⟩), fun c5 => f.2 (by rw [em]; rintro ⟨z1, z2 | z2⟩; exact c4 z2; omega)⟩⟩⟩
  · refine rd_number hs1 (mW_mono h (fun q hq h s2 k2 hs2 => ?_) (fun k p hq h2 v s2 her q2 => er_X6_readLimits_0_7 her.v (h2.go (k1.q.trans q2) her)))
    have hq35 := mU_lt hq
    refine ⟨fun _ => ?_, fun z => absurd rfl z⟩
    rw [if_neg c] at h
    have f := fin q.1 none q.2 s2 (k1.trans k2) hs2 h
    have c3 : lN q.1 ≤ (65536 : Int64) ↔ q.1 ≤ 65536 := lN_leB (b := 65536) (by omega) (by decide)
    have em : mRight tab q.1 none = true ↔ (tab = true ∨ q.1 ≤ 65536) := by
      unfold mRight
      simp
    rw [c3, cm]
    exact ⟨fun c => absurd c (Int64.lt_irrefl), fun _ => ⟨fun c4 => f.1 (by rw [em]; exact Or.inl c4), fun c4 => ⟨fun c5 => f.1 (by rw [em]; exact Or.inr c5), fun c5 => f.2 (by rw [em]; rintro (z | z); exact c4 z; exact c5 z)⟩⟩⟩
theorem rd_table {s : zS} {b : Nat → Nat} {e a n : Nat} {K : zS → Prop} {QX : zS → Prop} (hs : cSt s b e a) (hn : s.1 2 10 = nI n) (hn2 : n < 2 ^ 30) (h : mW (mTab b e true a) (fun r => ∀ s', gF [0, 4, 7] s s' → cSt s' b e r.2 → s'.1 2 10 = nI (n + 1) → (wr s' ↔ wr s ∨ 1 < n + 1 ∨ ¬ mRight true r.1.2.2.1 r.1.2.2.2 = true) → K s') (cEv s K)) : zCT zZC zmX6_readTable [.ref 3] s (zQv K) QX := by
  have ha := hs.lt
  refine rX6_readTable ?_
  unfold PX6_readTable_0
  refine rd_addTable hs.v hn hn2 hs.2.2.2.1 (by omega) (fun s1 g1 v1 n1 w1 => ?_)
  have hs1 := g1.st (by decide) (by decide) v1 hs
  unfold mTab at h
  rw [if_pos rfl, mW_bind] at h
  refine rd_need 112 hs1 rfl rfl (by decide) (mW_mono h (fun p hp h s2 k2 hs2 => ?_) (fun k p hq h2 v s2 her q2 => er_X6_readTable_0_1 her.v (h2.go ((g1.q (by decide)).trans q2) her)))
  rw [mW_bind] at h
  have g2 := k2.g
  refine rd_limits 3 true hs2 rfl (by decide) rfl (mW_mono h (fun r hr h s3 g3 hs3 w3 => ?_) (fun k p hq h2 s3 her q3 => er_X6_readTable_0_2 her.v (h2.go (((g1.q (by decide)).trans k2.q).trans q3) her)))
  refine h s3 (((g1.mono (by decide)).trans (g2.mono (by decide))).trans (g3.mono (by decide))) hs3 ?_ ?_
  · rw [(g3.g (k := 4) (by decide) 2 10 rfl).1, (g2.g (k := 4) (by decide) 2 10 rfl).1]; exact n1
  · rw [w3, wr_q (g2.g (k := 7) (by decide)), w1, or_assoc]
theorem rd_memory {s : zS} {b : Nat → Nat} {e a n : Nat} {K : zS → Prop} {QX : zS → Prop} (hs : cSt s b e a) (hn : s.1 2 11 = nI n) (hn2 : n < 2 ^ 30) (h : mW (mTab b e false a) (fun r => ∀ s', gF [0, 5, 7] s s' → cSt s' b e r.2 → s'.1 2 11 = nI (n + 1) → (wr s' ↔ wr s ∨ 1 < n + 1 ∨ ¬ mRight false r.1.2.2.1 r.1.2.2.2 = true) → K s') (cEv s K)) : zCT zZC zmX6_readMemory [.ref 3] s (zQv K) QX := by
  have ha := hs.lt
  refine rX6_readMemory ?_
  unfold PX6_readMemory_0
  refine rd_addMemory hs.v hn hn2 hs.2.2.2.1 (by omega) (fun s1 g1 v1 n1 w1 => ?_)
  have hs1 := g1.st (by decide) (by decide) v1 hs
  unfold mTab at h
  rw [if_neg (by decide)] at h
  have h : mW ((mLim b e a).bind fun l => .ok ((a, a, l.1.1, l.1.2), l.2)) _ (cEv s K) := h
  rw [mW_bind] at h
  refine rd_limits 5 false hs1 rfl (by decide) rfl (mW_mono h (fun r hr h s3 g3 hs3 w3 => ?_) (fun k p hq h2 s3 her q3 => er_X6_readMemory_0_1 her.v (h2.go ((g1.q (by decide)).trans q3) her)))
  refine h s3 ((g1.mono (by decide)).trans (g3.mono (by decide))) hs3 ?_ ?_
  · rw [(g3.g (k := 5) (by decide) 2 11 rfl).1]; exact n1
  · rw [w3, w1, or_assoc]
/-- is the constant that stands at c of the type ty: m of the globals are imports -/
def kCst (G : List (Nat × Nat)) (m : Nat) (b : Nat → Nat) (e c ty : Nat) : Prop := if b c = 35 then (match mU b e (c + 1) with
  | .ok u => u.1 < m ∧ (G.getD u.1 (0, 0)).2 = 0 ∧ (G.getD u.1 (0, 0)).1 = ty
  | .error _ => False) else b c = 65 + ty
theorem tyN_eq {t u : Nat} (ht : t ≤ 1) (hu : u ≤ 1) : nI (tyN t) = nI (tyN u) ↔ t = u := by
  have h : ∀ x, x ≤ 1 → tyN x = 127 - x := fun x hx => by unfold tyN; rw [if_neg (by omega), if_neg (by omega)]
  rw [h t ht, h u hu, nI_eq (by omega) (by omega)]
  omega
theorem rd_constant {s : zS} {b : Nat → Nat} {e a m ty : Nat} (k : Nat) {o w : Int32} {G : List (Nat × Nat)} {K : zS → Prop} {QX : zS → Prop} (hs : cSt s b e a) (hg : glR s G) (hm : s.1 2 13 = nI m) (hm2 : m ≤ G.length) (ho : o = nI k) (hk : k < 16) (hw : w = nI (tyN ty)) (hty : ty ≤ 1) (h : mW (mConst b e a) (fun r => ∀ s', gF [0, 7] s s' → cSt s' b e r → (wr s' ↔ wr s ∨ ¬ kCst G m b e a ty) → K s') (cEv s K)) : zCT zZC zmX6_readConstant [.ref 3, .int o, .int w] s (zQv K) QX := by
  have ha := hs.lt
  have ew : tyN ty = 127 - ty := by unfold tyN; rw [if_neg (by omega), if_neg (by omega)]
  refine rX6_readConstant ?_
  unfold PX6_readConstant_0
  unfold mConst at h
  rw [mW_bind] at h
  have fin : ∀ (p : Nat) (s1 : zS), fK s s1 → cSt s1 b e p → (∀ s', gF [0, 7] s s' → cSt s' b e p → (wr s' ↔ wr s ∨ ¬ kCst G m b e a ty) → K s') →
      (kCst G m b e a ty → K s1) ∧ (¬ kCst G m b e a ty → zCT zZC zmX2_noteWrong [.ref 2, .int o, .int (s.1 1 2)] s1 (zQv K) QX) := by
    intro p s1 k1 hs1 h
    have g1 := k1.g
    have w1 := wr_q (g1.g (k := 7) (by decide))
    refine ⟨fun q => h s1 (g1.mono (by decide)) hs1 (by rw [w1]; exact ⟨fun z => Or.inl z, fun z => z.resolve_right (fun z => z q)⟩), fun q => ?_⟩
    exact rd_noteWrong k a hs1.v ho hk hs.2.2.2.1 (by omega) (fun s2 g2 v2 w2 => h s2 ((g1.mono (by decide)).trans (g2.mono (by decide))) (g2.st (by decide) (by decide) v2 hs1) ⟨fun _ => Or.inr q, fun _ => w2⟩)
  refine rd_octet hs (mW_mono h (fun r hr h s1 k1 hs1 => ?_) (fun k p hq h2 v s1 her q1 => er_X6_readConstant_0_0 her.v (h2.go q1 her)))
  obtain ⟨hlt, rfl⟩ := mOct_in hr
  have hba := (hs.1 a (by have := hs.2.1; omega)).1
  have c1 : nI (b a) = (35 : Int32) ↔ b a = 35 := nI_eq (b := 35) (by omega) (by decide)
  have c2 : nI (b a) = (65 : Int32) ↔ b a = 65 := nI_eq (b := 65) (by omega) (by decide)
  have c3 : nI (b a) = (66 : Int32) ↔ b a = 66 := nI_eq (b := 66) (by omega) (by decide)
  rw [c1, c2, c3]
  have h : mW (if b a = 65 then (mSg b e 5 7 120 (a + 1)).bind fun q => mNeed b e 11 q else if b a = 66 then (mSg b e 10 0 127 (a + 1)).bind fun q => mNeed b e 11 q else if b a = 35 then (mU b e (a + 1)).bind fun q => mNeed b e 11 q.2 else .error (1, a)) (fun r => ∀ s', gF [0, 7] s s' → cSt s' b e r → (wr s' ↔ wr s ∨ ¬ kCst G m b e a ty) → K s') (cEv s K) := h
  refine ⟨fun c => ?_, fun c => ⟨fun c65 => ?_, fun c65 => ⟨fun c66 => ?_, fun c66 => ?_⟩⟩⟩
  · rw [if_neg (by omega), if_neg (by omega), if_pos c, mW_bind] at h
    refine rd_number hs1 (mW_mono h (fun u hu h s2 k2 hs2 => ?_) (fun k p hq h2 v s2 her q2 => er_X6_readConstant_0_1 her.v (h2.go (k1.q.trans q2) her)))
    have hu35 := mU_lt hu
    have k12 := k1.trans k2
    have g2 := glR_q (k12.g.g (k := 3) (by decide)) hg
    have m2 : s2.1 2 13 = nI m := by rw [(k12.g.g (k := 3) (by decide) 2 13 rfl).1]; exact hm
    have ek : kCst G m b e a ty ↔ u.1 < m ∧ (G.getD u.1 (0, 0)).2 = 0 ∧ (G.getD u.1 (0, 0)).1 = ty := by
      unfold kCst
      rw [if_pos c, hu]
    refine rd_isUnchangedImport g2 m2 hm2 (by omega) ?_
    by_cases q : u.1 < m ∧ (G.getD u.1 (0, 0)).2 = 0
    · rw [if_pos q]
      refine ⟨fun z => absurd z (by decide), fun _ => ?_⟩
      have eg := List.getElem?_eq_getElem (l := G) (i := u.1) (by omega)
      have ed : G.getD u.1 (0, 0) = G[u.1] := by rw [List.getD_eq_getElem?_getD, eg]; rfl
      rw [lN_i]
      refine rd_typeOfGlobal g2 eg ?_
      refine rd_need 11 hs2 rfl rfl (by decide) (mW_mono h (fun r hr h s3 k3 hs3 => ?_) (fun k p hq h2 v s3 her q3 => er_X6_readConstant_0_6 her.v (h2.go (k12.q.trans q3) her)))
      have f := fin r s3 (k12.trans k3) hs3 h
      rw [hw, tyN_eq (hg.2.2 _ _ eg).1 hty]
      rw [ed] at ek q
      exact ⟨fun c => f.1 (ek.2 ⟨q.1, q.2, c⟩), fun c => f.2 (fun z => c (ek.1 z).2.2)⟩
    · rw [if_neg q]
      refine ⟨fun _ => ?_, fun z => absurd rfl z⟩
      refine rd_need 11 hs2 rfl rfl (by decide) (mW_mono h (fun r hr h s3 k3 hs3 => ?_) (fun k p hq h2 v s3 her q3 => er_X6_readConstant_0_3 her.v (h2.go (k12.q.trans q3) her)))
      have f := fin r s3 (k12.trans k3) hs3 h
      rw [hw, ew]
      exact ⟨fun c => absurd ((nI_eq (a := 0) (by decide) (by omega)).1 c) (by omega), fun _ => f.2 (fun z => q ⟨(ek.1 z).1, (ek.1 z).2.1⟩)⟩
  · rw [if_pos c65, mW_bind] at h
    have ek : kCst G m b e a ty ↔ ty = 0 := by unfold kCst; rw [if_neg c]; omega
    refine rd_skipSigned 5 7 120 hs1 rfl rfl (by decide) (by decide) rfl (mW_mono h (fun r hr h s2 k2 hs2 => ?_) (fun k p hq h2 s2 her q2 => er_X6_readConstant_0_8 her.v (h2.go (k1.q.trans q2) her)))
    refine rd_need 11 hs2 rfl rfl (by decide) (mW_mono h (fun r hr h s3 k3 hs3 => ?_) (fun k p hq h2 v s3 her q3 => er_X6_readConstant_0_9 her.v (h2.go ((k1.trans k2).q.trans q3) her)))
    have f := fin r s3 ((k1.trans k2).trans k3) hs3 h
    have c4 : (127 : Int32) = nI (127 - ty) ↔ 127 = 127 - ty := nI_eq (a := 127) (by decide) (by omega)
    rw [hw, ew, c4]
    exact ⟨fun c => f.1 (ek.2 (by omega)), fun c => f.2 (fun z => c (by have := ek.1 z; omega))⟩
  · rw [if_neg c65, if_pos c66, mW_bind] at h
    have ek : kCst G m b e a ty ↔ ty = 1 := by unfold kCst; rw [if_neg c]; omega
    refine rd_skipSigned 10 0 127 hs1 rfl rfl (by decide) (by decide) rfl (mW_mono h (fun r hr h s2 k2 hs2 => ?_) (fun k p hq h2 s2 her q2 => er_X6_readConstant_0_11 her.v (h2.go (k1.q.trans q2) her)))
    refine rd_need 11 hs2 rfl rfl (by decide) (mW_mono h (fun r hr h s3 k3 hs3 => ?_) (fun k p hq h2 v s3 her q3 => er_X6_readConstant_0_12 her.v (h2.go ((k1.trans k2).q.trans q3) her)))
    have f := fin r s3 ((k1.trans k2).trans k3) hs3 h
    have c4 : (126 : Int32) = nI (127 - ty) ↔ 126 = 127 - ty := nI_eq (a := 126) (by decide) (by omega)
    rw [hw, ew, c4]
    exact ⟨fun c => f.1 (ek.2 (by omega)), fun c => f.2 (fun z => c (by have := ek.1 z; omega))⟩
  · rw [if_neg c65, if_neg c66, if_neg c] at h
    exact rd_fail 1 a hs1 (by decide) hs.2.2.2.1 (fun s3 her q3 => er_X6_readConstant_0_14 her.v (cEv.go (k := 1) (p := a) h (k1.q.trans q3) her))
