theorem sR.rf {s : zS} (hv : sV s) : sR s s := ⟨sK.rf, hv⟩
theorem nI_64 {n : Nat} (h : n < 2 ^ 31) : (nI n).toInt64 = lN n := nI_l h
theorem lN_ltB {a b : Nat} (ha : a < 2 ^ 62) (hb : b < 2 ^ 62) : lN a < lN b ↔ a < b := by
  rw [← Int64.not_le, lN_leB hb ha]; omega
theorem rd_signatureOf {s : zS} {n x : Nat} {L : List Nat} {K : Int32 → zS → Prop} {QX : zS → Prop} (hf : fnR s n L) (hx : x < 2 ^ 62) (h : K ((L[x]?).elim (-1) (sgI n)) s) : zCT zZC zmX2_signatureOf [.ref 2, .long (lN x)] s (zQi K) QX := by
  refine rX2_signatureOf ?_
  unfold PX2_signatureOf_0
  obtain ⟨h1, h2, h3⟩ := hf
  have c0 : lN x < (0 : Int64) ↔ x < 0 := lN_ltB (b := 0) hx (by decide)
  have c1 : ((s.1 2 8).toInt64) ≤ lN x ↔ L.length ≤ x := by rw [h2, nI_l (by omega), lN_leB (by omega) hx]
  have c2 : lN x < ((nI 96).toInt64) ↔ x < 96 := by rw [nI_l (by decide), lN_ltB hx (by decide)]
  rw [c0, c1, c2, lN_i]
  refine ⟨fun z => absurd z (Nat.not_lt_zero _), fun _ => ⟨fun c => ?_, fun c => ⟨fun c3 => ⟨vp_in_nI (by omega) (by decide), ?_⟩, fun c3 => absurd (by omega) c3⟩⟩⟩
  · rw [List.getElem?_eq_none c] at h; exact h
  · rw [nI_clamp (by omega)]
    have e := List.getElem?_eq_getElem (l := L) (i := x) (by omega)
    rw [h3 x _ e]
    rw [e] at h
    exact h
theorem rd_parameterCount {s : zS} {i : Nat} {g : mSigT} {S : List mSigT} {K : Int32 → zS → Prop} {QX : zS → Prop} (hs : sgR s S) (hg : S[i]? = some g) (h : K (nI g.1.length) s) : zCT zZC zmX2_parameterCount [.ref 2, .int (nI i)] s (zQi K) QX := by
  have hi := (List.getElem?_eq_some_iff.1 hg).1
  have h64 := hs.1
  refine rX2_parameterCount ?_
  unfold PX2_parameterCount_0
  rw [nI_clamp (by omega), (hs.2 i g hg).2.1]
  exact ⟨fun z => absurd z (nI_pos (by omega)), fun _ => ⟨fun z => absurd ((nI_leI (by decide) (by omega)).1 z) (by omega), fun _ => ⟨vp_in_nI (by omega) (by decide), h⟩⟩⟩
theorem rd_parameterCount_n {s : zS} {K : Int32 → zS → Prop} {QX : zS → Prop} (h : K 0 s) : zCT zZC zmX2_parameterCount [.ref 2, .int (-1)] s (zQi K) QX := by
  refine rX2_parameterCount ?_
  unfold PX2_parameterCount_0
  exact ⟨fun _ => h, fun z => absurd (by decide) z⟩
theorem rd_resultOf {s : zS} {i : Nat} {g : mSigT} {S : List mSigT} {K : Int32 → zS → Prop} {QX : zS → Prop} (hs : sgR s S) (hg : S[i]? = some g) (h : K (nI (tyN g.2)) s) : zCT zZC zmX2_resultOf [.ref 2, .int (nI i)] s (zQi K) QX := by
  have hi := (List.getElem?_eq_some_iff.1 hg).1
  have h64 := hs.1
  refine rX2_resultOf ?_
  unfold PX2_resultOf_0
  rw [nI_clamp (by omega), (hs.2 i g hg).2.2.2]
  exact ⟨fun z => absurd z (nI_pos (by omega)), fun _ => ⟨fun z => absurd ((nI_leI (by decide) (by omega)).1 z) (by omega), fun _ => ⟨vp_in_nI (by omega) (by decide), h⟩⟩⟩
theorem rd_resultOf_n {s : zS} {K : Int32 → zS → Prop} {QX : zS → Prop} (h : K 64 s) : zCT zZC zmX2_resultOf [.ref 2, .int (-1)] s (zQi K) QX := by
  refine rX2_resultOf ?_
  unfold PX2_resultOf_0
  exact ⟨fun _ => h, fun z => absurd (by decide) z⟩
theorem rd_parameter {s : zS} {i j : Nat} {g : mSigT} {S : List mSigT} {K : Int32 → zS → Prop} {QX : zS → Prop} (hs : sgR s S) (hg : S[i]? = some g) (hj : j < g.1.length) (h : K (nI (tyN (g.1.getD j 0))) s) : zCT zZC zmX2_parameter [.ref 2, .int (nI i), .int (nI j)] s (zQi K) QX := by
  have hi := (List.getElem?_eq_some_iff.1 hg).1
  have h64 := hs.1
  have h16 := (hs.2 i g hg).1.1
  have e : nI i * (16 : Int32) + nI j = nI (i * 16 + j) := by
    rw [show (16 : Int32) = nI 16 from rfl, pk_mul, nI_add]
  refine rX2_parameter ?_
  unfold PX2_parameter_0
  rw [e, nI_clamp (by omega), (hs.2 i g hg).2.2.1 j hj]
  exact ⟨fun z => absurd z (nI_pos (by omega)), fun _ => ⟨fun z => absurd ((nI_leI (by decide) (by omega)).1 z) (by omega), fun _ => ⟨vp_in_nI (by omega) (by decide), h⟩⟩⟩
theorem rd_typeOfGlobal {s : zS} {i : Nat} {g : Nat × Nat} {G : List (Nat × Nat)} {K : Int32 → zS → Prop} {QX : zS → Prop} (hs : glR s G) (hg : G[i]? = some g) (h : K (nI (tyN g.1)) s) : zCT zZC zmX2_typeOfGlobal [.ref 2, .int (nI i)] s (zQi K) QX := by
  have hi := (List.getElem?_eq_some_iff.1 hg).1
  have h64 := hs.1
  refine rX2_typeOfGlobal ?_
  unfold PX2_typeOfGlobal_0
  rw [nI_clamp (by omega), (hs.2.2 i g hg).2.2.1]
  exact ⟨fun z => absurd z (nI_pos (by omega)), fun _ => ⟨fun z => absurd ((nI_leI (by decide) (by omega)).1 z) (by omega), fun _ => ⟨vp_in_nI (by omega) (by decide), h⟩⟩⟩
theorem rd_changesGlobal {s : zS} {i : Nat} {g : Nat × Nat} {G : List (Nat × Nat)} {K : Int32 → zS → Prop} {QX : zS → Prop} (hs : glR s G) (hg : G[i]? = some g) (h : K (nI g.2) s) : zCT zZC zmX2_changesGlobal [.ref 2, .int (nI i)] s (zQi K) QX := by
  have hi := (List.getElem?_eq_some_iff.1 hg).1
  have h64 := hs.1
  obtain ⟨-, h1, -, h4⟩ := hs.2.2 i g hg
  refine rX2_changesGlobal ?_
  unfold PX2_changesGlobal_0
  rw [nI_clamp (by omega), h4]
  refine ⟨fun z => absurd z (nI_pos (by omega)), fun _ => ⟨fun z => absurd ((nI_leI (by decide) (by omega)).1 z) (by omega), fun _ => ⟨vp_in_nI (by omega) (by decide), fun c => ⟨Or.inl rfl, ?_⟩, fun c => ⟨Or.inr rfl, ?_⟩⟩⟩⟩
  · rw [c] at h; exact h
  · have e : g.2 = 1 := by
      have : ¬ g.2 = 0 := fun z => c (by rw [z]; rfl)
      omega
    rw [e] at h; exact h
/-- is it an import that does not change -/
theorem rd_isUnchangedImport {s : zS} {x m : Nat} {G : List (Nat × Nat)} {K : Int32 → zS → Prop} {QX : zS → Prop} (hs : glR s G) (hm : s.1 2 13 = nI m) (hm2 : m ≤ G.length) (hx : x < 2 ^ 62) (h : K (if x < m ∧ (G.getD x (0, 0)).2 = 0 then 1 else 0) s) : zCT zZC zmX2_isUnchangedImport [.ref 2, .long (lN x)] s (zQi K) QX := by
  have h64 := hs.1
  refine rX2_isUnchangedImport ?_
  unfold PX2_isUnchangedImport_0
  have c1 : ((s.1 2 13).toInt64) ≤ lN x ↔ m ≤ x := by rw [hm, nI_l (by omega), lN_leB (by omega) hx]
  have c2 : ((s.1 2 12).toInt64) ≤ lN x ↔ G.length ≤ x := by rw [hs.2.1, nI_l (by omega), lN_leB (by omega) hx]
  rw [c1, c2, lN_i]
  refine ⟨fun c => ⟨Or.inl rfl, ?_⟩, fun c => ⟨fun c3 => absurd c3 (by omega), fun c3 => ?_⟩⟩
  · rw [if_neg (by omega)] at h; exact h
  · have e := List.getElem?_eq_getElem (l := G) (i := x) (by omega)
    refine rd_changesGlobal hs e ?_
    have eg : G.getD x (0, 0) = G[x] := by rw [List.getD_eq_getElem?_getD, e]; rfl
    rw [eg] at h
    have h1 := (hs.2.2 x _ e).2.1
    refine ⟨fun c4 => ⟨Or.inr rfl, ?_⟩, fun c4 => ⟨Or.inl rfl, ?_⟩⟩
    · have : G[x].2 = 0 := (nI_eq (b := 0) (by omega) (by decide)).1 c4
      rw [if_pos ⟨by omega, this⟩] at h; exact h
    · have : ¬ G[x].2 = 0 := fun z => c4 (by rw [z]; rfl)
      rw [if_neg (fun z => this z.2)] at h; exact h
theorem rd_refuseBeyond {s : zS} {b : Nat → Nat} {e a : Nat} (i m : Nat) {x y : Int32} {K : zS → Prop} {QX : zS → Prop} (hs : cSt s b e a) (hx : x = nI i) (hy : y = nI m) (hi : i < 2 ^ 31) (hm : m < 2 ^ 31) (h : mW (if m ≤ i then .error (4, a) else .ok () : mE Unit) (fun _ => K s) (cEv s K)) : zCT zZC zmX6_refuseBeyond [.ref 3, .int x, .int y] s (zQv K) QX := by
  refine rX6_refuseBeyond ?_
  unfold PX6_refuseBeyond_0
  have c : nI i < nI m ↔ i < m := nI_ltI hi hm
  rw [hx, hy, c]
  refine ⟨fun c => ?_, fun c => ?_⟩
  · rw [if_neg (by omega)] at h; exact h
  · rw [if_pos (by omega)] at h
    exact rd_fail 4 a hs (by decide) hs.2.2.2.1 (fun s3 her q3 => h s3 her q3)
theorem mFlag_ow {b : Nat → Nat} {e a : Nat} : mFlag b e a = mOw b e 0 1 a := by
  unfold mFlag mOw
  congr 1
  funext r
  by_cases q : r.1 ≤ 1
  · rw [if_pos q, if_pos ⟨Nat.zero_le _, q⟩]
  · rw [if_neg q, if_neg (fun z => q z.2)]
theorem mNeed_ow {b : Nat → Nat} {e v a : Nat} : mNeed b e v a = (mOw b e v v a).bind fun r => .ok r.2 := by
  unfold mNeed mOw
  cases mOct b e a with
  | error q => rfl
  | ok r =>
    show (if r.1 = v then (.ok r.2 : mE Nat) else .error (1, a)) = Except.bind (if v ≤ r.1 ∧ r.1 ≤ v then (.ok r : mE (Nat × Nat)) else .error (1, a)) _
    by_cases q : r.1 = v
    · rw [if_pos q, if_pos ⟨by omega, by omega⟩]; rfl
    · rw [if_neg q, if_neg (by omega)]; rfl
theorem mOw_in {b : Nat → Nat} {e lo hi a : Nat} {r : Nat × Nat} (h : mOw b e lo hi a = .ok r) : a < e ∧ r = (b a, a + 1) ∧ lo ≤ r.1 ∧ r.1 ≤ hi := by
  unfold mOw at h
  cases hu : mOct b e a with
  | error q => rw [hu] at h; cases h
  | ok u =>
    rw [hu] at h
    have h : (if lo ≤ u.1 ∧ u.1 ≤ hi then (.ok u : mE (Nat × Nat)) else .error (1, a)) = .ok r := h
    have hi2 := mOct_in hu
    by_cases q : lo ≤ u.1 ∧ u.1 ≤ hi
    · rw [if_pos q] at h; cases h; exact ⟨hi2.1, hi2.2, q.1, q.2⟩
    · rw [if_neg q] at h; cases h
theorem rd_flag {s : zS} {b : Nat → Nat} {e a : Nat} {K : Int32 → zS → Prop} {QX : zS → Prop} (hs : cSt s b e a) (h : mW (mFlag b e a) (fun r => ∀ s', fK s s' → cSt s' b e r.2 → r.1 ≤ 1 → K (nI r.1) s') (cEi s K)) : zCT zZC zmX4_octetWithin [.ref 1, .int (0 : Int32), .int (1 : Int32)] s (zQi K) QX := by
  rw [mFlag_ow] at h
  exact rd_octetWithin 0 1 hs rfl rfl (by decide) (by decide) (mW_mono h (fun r hr h s1 k1 hs1 => h s1 k1 hs1 (mOw_in hr).2.2.2) (fun _ _ _ h => h))
theorem rd_need {s : zS} {b : Nat → Nat} {e a : Nat} (v : Nat) {x y : Int32} {K : Int32 → zS → Prop} {QX : zS → Prop} (hs : cSt s b e a) (hx : x = nI v) (hy : y = nI v) (hv : v < 256) (h : mW (mNeed b e v a) (fun r => ∀ s', fK s s' → cSt s' b e r → K (nI v) s') (cEi s K)) : zCT zZC zmX4_octetWithin [.ref 1, .int x, .int y] s (zQi K) QX := by
  rw [mNeed_ow, mW_bind] at h
  refine rd_octetWithin v v hs hx hy hv hv (mW_mono h (fun r hr h s1 k1 hs1 => ?_) (fun _ _ _ h => h))
  have e1 := (mOw_in hr).2.2
  rw [show r.1 = v by omega]
  exact h s1 k1 hs1
theorem rd_addTable {s : zS} {n p : Nat} {w : Int32} {K : zS → Prop} {QX : zS → Prop} (hv : sV s) (hn : s.1 2 10 = nI n) (hn2 : n < 2 ^ 30) (hw : w = nI p) (hp : p < 2 ^ 31) (h : ∀ s', gF [4, 7] s s' → sV s' → s'.1 2 10 = nI (n + 1) → (wr s' ↔ wr s ∨ 1 < n + 1) → K s') : zCT zZC zmX6_addTable [.ref 3, .int w] s (zQv K) QX := by
  refine rX6_addTable ?_
  unfold PX6_addTable_0
  intro s1 e1
  rw [hn, nI_1] at e1
  have k1 : sR s s1 := by rw [e1]; exact (sR.rf hv).i _ (by omega)
  have g1 : gF [4] s s1 := by rw [e1]; exact gF.rf.i _ (gmem (k := 4) rfl (by decide))
  have n1 : s1.1 2 10 = nI (n + 1) := by rw [e1, zI1, if_pos ⟨rfl, rfl⟩]
  have c : nI (n + 1) ≤ (1 : Int32) ↔ n + 1 ≤ 1 := nI_leI (b := 1) (by omega) (by decide)
  rw [n1, c]
  have w1 := wr_q (g1.g (k := 7) (by decide))
  refine ⟨fun c => h s1 (g1.mono (by decide)) k1.2 n1 (by rw [w1]; exact ⟨fun z => Or.inl z, fun z => z.resolve_right (by omega)⟩), fun c => ?_⟩
  refine rd_noteWrong 2 p k1.2 rfl (by decide) hw hp (fun s2 g2 v2 w2 => h s2 ((g1.mono (by decide)).trans (g2.mono (by decide))) v2 ?_ ⟨fun _ => Or.inr (by omega), fun _ => w2⟩)
  rw [(g2.g (k := 4) (by decide) 2 10 rfl).1]; exact n1
theorem rd_addMemory {s : zS} {n p : Nat} {w : Int32} {K : zS → Prop} {QX : zS → Prop} (hv : sV s) (hn : s.1 2 11 = nI n) (hn2 : n < 2 ^ 30) (hw : w = nI p) (hp : p < 2 ^ 31) (h : ∀ s', gF [5, 7] s s' → sV s' → s'.1 2 11 = nI (n + 1) → (wr s' ↔ wr s ∨ 1 < n + 1) → K s') : zCT zZC zmX6_addMemory [.ref 3, .int w] s (zQv K) QX := by
  refine rX6_addMemory ?_
  unfold PX6_addMemory_0
  intro s1 e1
  rw [hn, nI_1] at e1
  have k1 : sR s s1 := by rw [e1]; exact (sR.rf hv).i _ (by omega)
  have g1 : gF [5] s s1 := by rw [e1]; exact gF.rf.i _ (gmem (k := 5) rfl (by decide))
  have n1 : s1.1 2 11 = nI (n + 1) := by rw [e1, zI1, if_pos ⟨rfl, rfl⟩]
  have c : nI (n + 1) ≤ (1 : Int32) ↔ n + 1 ≤ 1 := nI_leI (b := 1) (by omega) (by decide)
  rw [n1, c]
  have w1 := wr_q (g1.g (k := 7) (by decide))
  refine ⟨fun c => h s1 (g1.mono (by decide)) k1.2 n1 (by rw [w1]; exact ⟨fun z => Or.inl z, fun z => z.resolve_right (by omega)⟩), fun c => ?_⟩
  refine rd_noteWrong 4 p k1.2 rfl (by decide) hw hp (fun s2 g2 v2 w2 => h s2 ((g1.mono (by decide)).trans (g2.mono (by decide))) v2 ?_ ⟨fun _ => Or.inr (by omega), fun _ => w2⟩)
  rw [(g2.g (k := 5) (by decide) 2 11 rfl).1]; exact n1
/-- a function's signature: of an import, of an own function -/
theorem rd_fn {s : zS} {b : Nat → Nat} {e a n : Nat} (k : Nat) {o : Int32} {L : List Nat} {K : zS → Prop} {QX : zS → Prop} (hs : cSt s b e a) (ho : o = nI k) (hk : k < 16) (hf : fnR s n L) (hl : L.length < 96) (hn : s.1 18 1 = nI n) (hn2 : n ≤ 64) (h : mW (mU b e a) (fun r => ∀ s', gF [0, 2, 7] s s' → cSt s' b e r.2 → fnR s' n (L ++ [r.1]) → s'.1 2 9 = s.1 2 9 → (wr s' ↔ wr s ∨ ¬ r.1 < n) → K s') (cEv s K)) : zCT zZC zmX6_readSignatureOfFunction [.ref 3, .int o] s (zQv K) QX := by
  refine rX6_readSignatureOfFunction ?_
  unfold PX6_readSignatureOfFunction_0
  refine rd_number hs (mW_mono h (fun r hr h s1 k1 hs1 => ?_) (fun k p hq h2 v s1 her q1 => er_X6_readSignatureOfFunction_0_0 her.v (h2.go q1 her)))
  have hlt := mU_lt hr
  have g1 := k1.g
  have f1 := fnR_q (g1.g (by decide)) hf
  have n1 : s1.1 18 1 = nI n := by rw [(g1.g (k := 8) (by decide) 18 1 rfl).1]; exact hn
  have w1 := wr_q (g1.g (k := 7) (by decide))
  have m1 : s1.1 2 9 = s.1 2 9 := (g1.g (k := 2) (by decide) 2 9 rfl).1
  have c : lN r.1 < ((s1.1 18 (1 : Int32).toNatClampNeg).toInt64) ↔ r.1 < n := by
    rw [show (1 : Int32).toNatClampNeg = 1 from rfl, n1, nI_l (by omega), lN_ltB (by omega) (by omega)]
  rw [c]
  refine ⟨by unfold vp_in; decide, fun c => ?_, fun c => ?_⟩
  · refine rd_addFunction hs1.v f1 hl n1 hn2 hlt (fun s2 g2 v2 f2 m2 => h s2 ((g1.mono (by decide)).trans (g2.mono (by decide))) (g2.st (by decide) (by decide) v2 hs1) f2 (m2.trans m1) ?_)
    rw [wr_q (g2.g (k := 7) (by decide)), w1]
    exact ⟨fun z => Or.inl z, fun z => z.resolve_right (fun q => q c)⟩
  · refine rd_noteWrong k a hs1.v ho hk hs.2.2.2.1 (by have := hs.2.1; have := hs.2.2.2.2.2.1; omega) (fun s2 g2 v2 w2 => ?_)
    have f2 := fnR_q (g2.g (by decide)) f1
    have n2 : s2.1 18 1 = nI n := by rw [(g2.g (k := 8) (by decide) 18 1 rfl).1]; exact n1
    have m2 : s2.1 2 9 = s1.1 2 9 := (g2.g (k := 2) (by decide) 2 9 rfl).1
    refine rd_addFunction v2 f2 hl n2 hn2 hlt (fun s3 g3 v3 f3 m3 => h s3 (((g1.mono (by decide)).trans (g2.mono (by decide))).trans (g3.mono (by decide))) (g3.st (by decide) (by decide) v3 (g2.st (by decide) (by decide) v2 hs1)) f3 (m3.trans (m2.trans m1)) ?_)
    rw [wr_q (g3.g (k := 7) (by decide))]
    exact ⟨fun _ => Or.inr c, fun _ => w2⟩
