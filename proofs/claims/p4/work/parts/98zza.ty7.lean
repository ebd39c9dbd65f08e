/-- what an instruction may be: of one byte, or 256 and the number behind 252 -/
def isOp (x : Nat) : Bool := decide (x ≤ 5) || decide (x = 11) || (decide (12 ≤ x) && decide (x ≤ 17)) || decide (x = 26) || decide (x = 27) || (decide (32 ≤ x) && decide (x ≤ 36)) || isAcc x || (decide (63 ≤ x) && decide (x ≤ 66)) || isNum x || (decide (264 ≤ x) && decide (x ≤ 270))
theorem op_choice : ∀ x, x < 28 → isOp x = true → 17 < x → x = 26 ∨ x = 27 := by decide +kernel
theorem op_local : ∀ x, x < 35 → isOp x = true → 27 < x → x = 32 ∨ x = 33 ∨ x = 34 := by decide +kernel
theorem op_acc : ∀ x, x < 63 → isOp x = true → 36 < x → isAcc x = true := by decide +kernel
theorem op_plain : ∀ x, x < 256 → isOp x = true → 64 < x → x = 65 ∨ x = 66 ∨ isNum x = true := by decide +kernel
theorem op_lp : ∀ x, x < 16 → isOp x = true → 5 < x → 11 ≤ x := by decide +kernel
theorem op_longer : ∀ x, isOp x = true → 256 ≤ x → 264 ≤ x ∧ x ≤ 270 := by
  intro x h h2
  unfold isOp isAcc isNum at h
  simp only [Bool.or_eq_true, Bool.and_eq_true, decide_eq_true_eq] at h
  omega
theorem lcR_q {σ s : zS} {L : List Nat} (h : gQ 15 σ s) (r : lcR σ L) : lcR s L := ⟨r.1, by rw [(h 7 3 rfl).1]; exact r.2.1, fun i x e => ⟨(r.2.2 i x e).1, by rw [(h 27 i rfl).1]; exact (r.2.2 i x e).2⟩⟩
theorem lbR_q {σ s : zS} {l : List Nat} (h : gQ 14 σ s) (r : lbR σ l) : lbR s l := ⟨by rw [(h 6 1 rfl).1]; exact r.1, r.2.1, fun i x e => ⟨(r.2.2 i x e).1, by rw [(h 26 i rfl).2]; exact (r.2.2 i x e).2⟩⟩
/-- what the typing of a body looks at: functions' signatures, signatures, globals, locals, the body's result, how many tables, memories, elements, told data -/
abbrev tE : Type := List Nat × List mSigT × List (Nat × Nat) × List Nat × Nat × Nat × Nat × Nat × Option Nat
def tE.L (E : tE) : List Nat := E.1
def tE.S (E : tE) : List mSigT := E.2.1
def tE.G (E : tE) : List (Nat × Nat) := E.2.2.1
def tE.lc (E : tE) : List Nat := E.2.2.2.1
def tE.g (E : tE) : Nat := E.2.2.2.2.1
def tE.nt (E : tE) : Nat := E.2.2.2.2.2.1
def tE.nm (E : tE) : Nat := E.2.2.2.2.2.2.1
def tE.ne (E : tE) : Nat := E.2.2.2.2.2.2.2.1
def tE.nd (E : tE) : Option Nat := E.2.2.2.2.2.2.2.2
def tER (s : zS) (E : tE) : Prop := fnR s E.S.length E.L ∧ sgR s E.S ∧ glR s E.G ∧ lcR s E.lc ∧ (s.1 22 0 = nI (tyN E.g) ∧ E.g ≤ 2) ∧ (s.1 2 10 = nI E.nt ∧ E.nt < 2 ^ 30) ∧ (s.1 2 11 = nI E.nm ∧ E.nm < 2 ^ 30) ∧ (s.1 18 9 = nI E.ne ∧ E.ne < 2 ^ 30) ∧ (s.2 2 14 = optL E.nd ∧ ∀ m, E.nd = some m → m < 2 ^ 35) ∧ s.1 18 1 = nI E.S.length
theorem tER_g {l : List Nat} {σ s : zS} {E : tE} (h : gF l σ s) (hn : ∀ k ∈ [1, 2, 3, 4, 5, 6, 8, 15], ¬ k ∈ l) (h22 : s.1 22 0 = σ.1 22 0) (r : tER σ E) : tER s E := by
  obtain ⟨r1, r2, r3, r4, r5, r6, r7, r8, r9, r10⟩ := r
  have g : ∀ k, k ∈ [1, 2, 3, 4, 5, 6, 8, 15] → gQ k σ s := fun k hk => h.g (hn k hk)
  refine ⟨fnR_q (g 2 (by decide)) r1, sgR_q (g 1 (by decide)) r2, glR_q (g 3 (by decide)) r3, lcR_q (g 15 (by decide)) r4, ⟨by rw [h22]; exact r5.1, r5.2⟩, ⟨?_, r6.2⟩, ⟨?_, r7.2⟩, ⟨?_, r8.2⟩, ⟨?_, r9.2⟩, ?_⟩
  · rw [(g 4 (by decide) 2 10 rfl).1]; exact r6.1
  · rw [(g 5 (by decide) 2 11 rfl).1]; exact r7.1
  · rw [(g 8 (by decide) 18 9 rfl).1]; exact r8.1
  · rw [(g 6 (by decide) 2 14 rfl).2]; exact r9.1
  · rw [(g 8 (by decide) 18 1 rfl).1]; exact r10
/-- an instruction's typing ahead of the turn of frames -/
def cStep (E : tE) (x k : Nat) (l : List Nat) (t : tT) : tT :=
  if x ≤ 5 ∨ x = 11 then tPreF x t
  else if x = 14 then tRow l t
  else if x ≤ 15 then (if x = 15 then tRest (tTake E.g t).2 else if x = 13 then tBrIf k t else tBr k t)
  else if x = 16 then tCallX ((E.L[k]?).bind fun y => E.S[y]?) t
  else if x = 17 then tCallY E.S (decide (0 < E.nt)) k t
  else if x ≤ 27 then (if x = 26 then (tTake 3 t).2 else tSel t)
  else if x ≤ 34 then tLoc E.lc x k t
  else if x ≤ 36 then tGlo' E.G x k t
  else if x ≤ 62 then (if 54 ≤ x then (tTake 0 (tTake (vt0 x) (tNeed (decide (0 < E.nm) && decide (k ≤ wd0 x)) t)).2).2 else tGive (vt0 x) (tTake 0 (tNeed (decide (0 < E.nm) && decide (k ≤ wd0 x)) t)).2)
  else if x ≤ 64 then tTurns 0 (x - 63) 0 (tNeed (decide (0 < E.nm)) t)
  else if x < 256 then (if x = 65 then tGive 0 t else if x = 66 then tGive 1 t else tNum x t)
  else tB0 (decide (∃ m, E.nd = some m ∧ k < m)) (decide (k < E.ne)) (decide (0 < E.nm)) (decide (0 < E.nt)) (x - 256) t
theorem fo_right {s : zS} {t : tT} {E : tE} {x k : Nat} {l : List Nat} {K : Int32 → zS → Prop} {QX : zS → Prop} (hv : sV s) (hs : tS s t) (hf : t.2.2 = true) (hE : tER s E) (hx : isOp x = true) (hx2 : x < 300) (h3 : s.1 6 3 = nI x) (hk : x = 12 ∨ x = 13 ∨ x = 16 ∨ x = 17 ∨ (32 ≤ x ∧ x ≤ 36) ∨ (40 ≤ x ∧ x ≤ 62) ∨ x = 264 ∨ x = 265 ∨ x = 268 ∨ x = 269 → k < 2 ^ 35) (h4 : s.2 6 4 = lN k) (hlb : x = 14 → lbR s l) (hl : t.1.length < 16000)
    (h : ∀ s', gF [13] s s' → s'.1 5 5 = s.1 5 5 → (∀ i, s'.1 21 i = s.1 21 i ∧ s'.1 22 i = s.1 22 i ∧ s'.1 23 i = s.1 23 i) → sV s' → ((cStep E x k l t).2.2 = true → tG s' (cStep E x k l t) → K 1 s') ∧ ((cStep E x k l t).2.2 = false → K 0 s')) : zCT zZC zmX7_isRight [.ref 7, .ref 6] s (zQi K) QX := by
  refine rX7_isRight ?_
  unfold PX7_isRight_0
  refine ⟨Or.inr rfl, fun s1 e1 => ?_⟩
  have g1 : gF [13] s s1 := by rw [e1]; exact gF.rf.i _ (gmem (k := 13) rfl (by decide))
  have v1 : sV s1 := by rw [e1]; exact tzR.s7 hv _ (Or.inr rfl)
  have E1 : tER s1 E := tER_g g1 (by decide) (by rw [e1, zI1, if_neg (by omega)]) hE
  have T1 : tG s1 t := by
    obtain ⟨a1, a2, a3, a4, a5, a6, a7⟩ := hs
    refine ⟨v1, by rw [e1, zI1, if_pos ⟨rfl, rfl⟩], hf, by rw [e1, zI1, if_neg (by omega)]; exact a1, a2, a3, a4, by rw [e1, zI1, if_neg (by omega)]; exact a5, ?_, ?_⟩
    · rw [e1]; exact tsC_i (fun z => absurd z (by decide)) a6
    · rw [e1]; exact fsC_i (fun z => absurd z (by omega)) a7
  have m4 : s1.2 6 4 = lN k := by rw [e1]; exact h4
  have fr : ∀ s2, tzR s1 s2 → gF [13] s s2 ∧ s2.1 5 5 = s.1 5 5 ∧ (∀ i, s2.1 21 i = s.1 21 i ∧ s2.1 22 i = s.1 22 i ∧ s2.1 23 i = s.1 23 i) := by
    intro s2 k2
    have q : ∀ c i, ¬ (c = 24 ∨ c = 25 ∨ (c = 5 ∧ (i = 6 ∨ i = 7))) → s2.1 c i = s.1 c i ∧ s2.2 c i = s.2 c i := fun c i z => ⟨by rw [(k2.1.1 c i z).1, e1, zI1, if_neg (by omega)], by rw [(k2.1.1 c i z).2, e1]; rfl⟩
    refine ⟨fun c i hc => q c i (fun z => hc ?_), (q 5 5 (by omega)).1, fun i => ⟨(q 21 i (by omega)).1, (q 22 i (by omega)).1, (q 23 i (by omega)).1⟩⟩
    have e : cown c i = 13 := by
      rcases z with z | z | z
      · rw [z]; rfl
      · rw [z]; rfl
      · rw [z.1]; rfl
    rw [e]
    exact List.mem_singleton.2 rfl
  have mk : tOk s1 (cStep E x k l t) (fun s2 => (s2.1 5 7 = 0 ∨ s2.1 5 7 = 1) ∧ zQi K (some (.int (s2.1 5 7))) s2) := by
    refine ⟨fun f s2 k2 g2 => ⟨Or.inr g2.2.1, ?_⟩, fun f s2 k2 z2 => ⟨Or.inl z2, ?_⟩⟩
    · rw [g2.2.1]
      have q := fr s2 k2
      exact (h s2 q.1 q.2.1 q.2.2 k2.2).1 f g2
    · rw [z2]
      have q := fr s2 k2
      exact (h s2 q.1 q.2.1 q.2.2 k2.2).2 f
  unfold cStep at mk
  have c1 : nI x ≤ (5 : Int32) ↔ x ≤ 5 := nI_leI (b := 5) (by omega) (by decide)
  have c2 : nI x = (11 : Int32) ↔ x = 11 := nI_eq (b := 11) (by omega) (by decide)
  have c3 : nI x = (14 : Int32) ↔ x = 14 := nI_eq (b := 14) (by omega) (by decide)
  have c4 : (15 : Int32) < nI x ↔ 15 < x := nI_ltI (a := 15) (by decide) (by omega)
  have c5 : (17 : Int32) < nI x ↔ 17 < x := nI_ltI (a := 17) (by decide) (by omega)
  have c6 : (27 : Int32) < nI x ↔ 27 < x := nI_ltI (a := 27) (by decide) (by omega)
  have c7 : (34 : Int32) < nI x ↔ 34 < x := nI_ltI (a := 34) (by decide) (by omega)
  have c8 : (36 : Int32) < nI x ↔ 36 < x := nI_ltI (a := 36) (by decide) (by omega)
  have c9 : (62 : Int32) < nI x ↔ 62 < x := nI_ltI (a := 62) (by decide) (by omega)
  have c10 : (64 : Int32) < nI x ↔ 64 < x := nI_ltI (a := 64) (by decide) (by omega)
  have c11 : (256 : Int32) ≤ nI x ↔ 256 ≤ x := nI_leI (a := 256) (by decide) (by omega)
  rw [h3, m4, c1, c2, c3, c4, c5, c6, c7, c8, c9, c10, c11]
  obtain ⟨r1, r2, r3, r4, r5, r6, r7, r8, r9, r10⟩ := E1
  have j24 : (x ≤ 5 ∨ x = 11) → PX7_isRight_24 (zQi K) QX (nI x) s1 := by
    intro q
    rw [if_pos q] at mk
    unfold PX7_isRight_24
    exact fo_frame T1 (by omega) mk
  refine ⟨fun q => j24 (Or.inl q), fun q1 => ⟨fun q => j24 (Or.inr q), fun q2 => ⟨fun q => ?_, fun q3 => ⟨fun q4 => ⟨fun q5 => ⟨fun q6 => ⟨fun q7 => ⟨fun q8 => ⟨fun q9 => ⟨fun q10 => ⟨fun q11 => ?_, fun q11 => ?_⟩, fun q10 => ?_⟩, fun q9 => ?_⟩, fun q8 => ?_⟩, fun q7 => ?_⟩, fun q6 => ?_⟩, fun q5 => ?_⟩, fun q4 => ?_⟩⟩⟩⟩
  · rw [if_neg (by omega), if_pos q] at mk
    exact fo_table T1 (lbR_q (g1.g (by decide)) (hlb q)) mk
  · rw [if_neg (by omega), if_neg q3, if_neg (by omega), if_neg (by omega), if_neg (by omega), if_neg (by omega), if_neg (by omega), if_neg (by omega), if_neg (by omega), if_neg (by omega), if_neg (by omega)] at mk
    have ho := op_longer x hx q11
    have ex : nI x = nI (256 + (x - 256)) := by rw [show 256 + (x - 256) = x by omega]
    rw [ex]
    exact fo_longer T1 (by omega) (fun z => hk (by omega)) r6.1 r6.2 r7.1 r7.2 r8.1 r8.2 r9.1 r9.2 mk
  · rw [if_neg (by omega), if_neg q3, if_neg (by omega), if_neg (by omega), if_neg (by omega), if_neg (by omega), if_neg (by omega), if_neg (by omega), if_neg (by omega), if_neg (by omega), if_pos (by omega)] at mk
    exact fo_plain T1 (by omega) (op_plain x (by omega) hx q10) hl mk
  · rw [if_neg (by omega), if_neg q3, if_neg (by omega), if_neg (by omega), if_neg (by omega), if_neg (by omega), if_neg (by omega), if_neg (by omega), if_neg (by omega), if_pos (by omega)] at mk
    exact fo_size T1 r7.1 r7.2 (by omega) hl mk
  · rw [if_neg (by omega), if_neg q3, if_neg (by omega), if_neg (by omega), if_neg (by omega), if_neg (by omega), if_neg (by omega), if_neg (by omega), if_pos (by omega)] at mk
    have hac := op_acc x (by omega) hx q8
    have h40 : 40 ≤ x := by
      have z' := hac
      unfold isAcc at z'
      simp only [Bool.and_eq_true, decide_eq_true_eq] at z'
      omega
    exact fo_access T1 r7.1 r7.2 hac (hk (by omega)) hl mk
  · rw [if_neg (by omega), if_neg q3, if_neg (by omega), if_neg (by omega), if_neg (by omega), if_neg (by omega), if_neg (by omega), if_pos (by omega)] at mk
    exact fo_global T1 r3 (by omega) (hk (by omega)) hl mk
  · rw [if_neg (by omega), if_neg q3, if_neg (by omega), if_neg (by omega), if_neg (by omega), if_neg (by omega), if_pos (by omega)] at mk
    have hlo := op_local x (by omega) hx q6
    exact fo_local T1 r4 hlo (hk (by omega)) hl mk
  · rw [if_neg (by omega), if_neg q3, if_neg (by omega), if_neg (by omega), if_neg (by omega), if_pos (by omega)] at mk
    exact fo_choice T1 (op_choice x (by omega) hx q5) hl mk
  · by_cases q16 : x = 16
    · rw [if_neg (by omega), if_neg q3, if_neg (by omega), if_pos q16] at mk
      rw [q16]
      exact fo_call T1 r1 r2 (hk (by omega)) hl mk
    · have q17 : x = 17 := by omega
      rw [if_neg (by omega), if_neg q3, if_neg (by omega), if_neg q16, if_pos q17] at mk
      rw [q17]
      exact fo_calli T1 r2 r10 r6.1 r6.2 (hk (by omega)) hl mk
  · rw [if_neg (by omega), if_neg q3, if_pos (by omega)] at mk
    have hlp := op_lp x (by omega) hx (by omega)
    exact fo_leap T1 (by omega) (fun z => hk (by omega)) hl r5.1 r5.2 mk
