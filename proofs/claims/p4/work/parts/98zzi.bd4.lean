/-- the turn of frames in the model -/
def tTurn (x r : Nat) (t : tT) : tT := if 2 ≤ x ∧ x ≤ 4 then tFrame x (if x = 3 then 2 else r) r t else if x = 5 then tElse t else if x = 11 then tPop t else t
/-- the open frames behind an instruction: none: the body's end -/
def owAft (s : zS) (o : Option (List Nat)) : Prop := match o with
  | none => s.1 5 5 = nI 0 - (1 : Int32)
  | some ow => s.1 5 5 = nI ow.length ∧ owC s ow ∧ ow.length ≤ 60
/-- the types behind the turn, where they are followed -/
def tyAft (s : zS) (o : Option (List Nat)) (t : tT) : Prop := match o with
  | none => True
  | some ow => tS s t ∧ t.2.1.length = ow.length + 1
theorem tElse_len {t : tT} (h : ¬ t.2.1 = []) : (tElse t).2.1.length = t.2.1.length := by
  unfold tElse
  cases hF : t.2.1 with
  | nil => exact absurd hF h
  | cons f r => rfl
theorem tPop_len {t : tT} (h : ¬ t.2.1 = []) : (tPop t).2.1.length + 1 = t.2.1.length := by
  unfold tPop
  cases hF : t.2.1 with
  | nil => exact absurd hF h
  | cons f r =>
    show (tGive f.2.2.1 (t.1.drop (t.1.length - f.2.2.2.1), r, t.2.2)).2.1.length + 1 = r.length + 1
    unfold tGive
    split <;> rfl
theorem tTopW_ow {s : zS} {t : tT} {y : Nat} {r : List Nat} (hS : tS s t) (hl : t.2.1.length = r.length + 2) (ho : owC s (y :: r)) (hy : y = 4) : tTopW t = 4 := by
  obtain ⟨f, r', hF⟩ := tS_cons hS
  have a7 := hS.2.2.2.2.2.2
  rw [hF] at a7 hl
  have e : r'.length = r.length + 1 := by simpa using hl
  have q1 := a7.1
  have q5 := a7.2.2.2.2.1
  rw [e, ho.1] at q1
  have h2 : y = opW f.1 := (nI_eq (by have := ho.2.1; omega) (by unfold opW; split <;> omega)).1 q1
  unfold tTopW
  rw [hF]
  show f.1 = 4
  unfold opW at h2
  split at h2 <;> omega
theorem rd_turn {s : zS} {ow : List Nat} {x r : Nat} {K : zS → Prop} {QX : zS → Prop} (hv : sV s) (h3 : s.1 6 3 = nI x) (hx : x < 300) (h4 : 2 ≤ x ∧ x ≤ 4 → s.2 6 4 = lN (tyN r) ∧ r ≤ 2) (hd : s.1 5 5 = nI ow.length) (ho : owC s ow) (h60 : ow.length ≤ 60) (hl1 : 2 ≤ x ∧ x ≤ 4 → ow.length < 60) (hl2 : x = 5 → ow.head? = some 4)
    (h : ∀ s', gF [13] s s' → sV s' → s'.1 22 0 = s.1 22 0 → owAft s' (mNx x ow) → (∀ t, tS s t → t.2.1.length = ow.length + 1 → t.1.length < 16000 → tyAft s' (mNx x ow) (tTurn x r t)) → K s') : zCT zZC zmX1_turnFrames [.ref 4] s (zQv K) QX := by
  have c : ∀ j, j < 400 → (nI x = nI j ↔ x = j) := fun j hj => nI_eq (by omega) (by omega)
  refine rX1_turnFrames ?_
  unfold PX1_turnFrames_0
  rw [h3]
  have z1 : zin (nI x) [2, 3, 4] ↔ (2 ≤ x ∧ x ≤ 4) := by
    show (nI x = nI 2 ∨ nI x = nI 3 ∨ nI x = nI 4) ↔ _
    rw [c 2 (by decide), c 3 (by decide), c 4 (by decide)]
    omega
  have z2 : nI x = (5 : Int32) ↔ x = 5 := c 5 (by decide)
  have z3 : nI x = (11 : Int32) ↔ x = 11 := c 11 (by decide)
  rw [z1, z2, z3]
  unfold mNx tTurn at h
  refine ⟨fun q => ?_, fun q => ⟨fun q2 => ?_, fun q2 => ⟨fun q3 => ?_, fun q3 => ?_⟩⟩⟩
  · obtain ⟨h64, hr⟩ := h4 q
    rw [if_pos q] at h
    rw [h64, lN_i]
    refine ty_open hv hd ho (hl1 q) q hr rfl rfl (fun s' g v d o z tt => h s' g v z ⟨d, o, by have := hl1 q; show ow.length + 1 ≤ 60; omega⟩ (fun t hS ht hlt => ?_))
    rw [if_pos q]
    exact ⟨tt t hS ht, by show t.2.1.length + 1 = ow.length + 1 + 1; omega⟩
  · rw [if_neg q, if_pos q2] at h
    cases ow with
    | nil => have := hl2 q2; cases this
    | cons y ow =>
      have hy : y = 4 := Option.some.inj (hl2 q2)
      have h61 : ow.length + 1 ≤ 60 := h60
      refine ty_else hv hd ho (by omega) (fun s' g v d o z tt => h s' g v z ⟨d, o, h61⟩ (fun t hS ht hlt => ?_))
      rw [if_neg q, if_pos q2]
      have hlen : t.2.1.length = ow.length + 2 := ht
      exact ⟨tt t hS hlen (tTopW_ow hS hlen ho hy), by rw [tElse_len hS.2.2.1]; exact ht⟩
  · rw [if_neg q, if_neg q2, if_pos q3] at h
    cases ow with
    | nil =>
      exact ty_close (n := 0) hv hd (by decide) ho (fun s' g v d o z tt => h s' g v z d (fun t hS ht hlt => trivial))
    | cons y ow =>
      have h61 : ow.length + 1 ≤ 60 := h60
      refine ty_close (n := ow.length + 1) hv hd h61 ho.2.2 (fun s' g v d o z tt => h s' g v z ⟨by rw [d]; exact nI_sub1, o, by omega⟩ (fun t hS ht hlt => ?_))
      rw [if_neg q, if_neg q2, if_pos q3]
      have hp := tPop_len hS.2.2.1
      have ht : t.2.1.length = ow.length + 1 + 1 := ht
      exact ⟨tt t hS ht (by omega) hlt, by omega⟩
  · rw [if_neg q, if_neg q2, if_neg q3] at h
    refine h s gF.rf hv rfl ⟨hd, ho, h60⟩ (fun t hS ht hlt => ?_)
    rw [if_neg q, if_neg q2, if_neg q3]
    exact ⟨hS, ht⟩
/-- a body's answers: where its codes begin, how many, its locals -/
theorem rd_beginBody {s : zS} {i : Nat} {w : Int32} {K : zS → Prop} {QX : zS → Prop} (hv : sV s) (hi : i < 2 ^ 31) (h : ∀ s', gF [12] s s' → sV s' → (∀ j, s'.1 32 j = s.1 32 j ∧ s'.1 30 j = s.1 30 j) → s'.1 8 5 = s.1 8 5 → (∀ j, j < 64 → s'.1 29 j = (if j = i then s.1 8 5 else s.1 29 j) ∧ s'.1 31 j = (if j = i then w else s.1 31 j)) → K s') : zCT zZC zmX0_beginBody [.ref 8, .int (nI i), .int w] s (zQv K) QX := by
  refine rX0_beginBody ?_
  unfold PX0_beginBody_0
  rw [nI_clamp hi]
  have c1 : nI 64 ≤ nI i ↔ 64 ≤ i := nI_leI (by decide) hi
  rw [c1]
  refine ⟨fun z => absurd z (nI_pos hi), fun _ => ⟨fun q => h s gF.rf hv (fun _ => ⟨rfl, rfl⟩) rfl (fun j hj => ⟨by rw [if_neg (by omega)], by rw [if_neg (by omega)]⟩), fun q => ⟨vp_in_nI (by omega) (by decide), fun s1 e1 => ⟨vp_in_nI (by omega) (by decide), fun s2 e2 => ?_⟩⟩⟩⟩
  have k2 : sR s s2 := by rw [e2, e1]; exact ((sR.rf hv).i _ (by omega)).i _ (by omega)
  refine h s2 (by rw [e2, e1]; exact (gF.rf.i _ (m12 (by omega))).i _ (m12 (by omega))) k2.2 (fun j => ⟨?_, ?_⟩) ?_ (fun j hj => ⟨?_, ?_⟩)
  · rw [e2, zI1, if_neg (by omega), e1, zI1, if_neg (by omega)]
  · rw [e2, zI1, if_neg (by omega), e1, zI1, if_neg (by omega)]
  · rw [e2, zI1, if_neg (by omega), e1, zI1, if_neg (by omega)]
  · rw [e2, zI1, if_neg (by omega), e1, zI1]
    by_cases q2 : j = i
    · rw [if_pos ⟨rfl, q2⟩, if_pos q2]
    · rw [if_neg (by omega), if_neg q2]
  · rw [e2, zI1]
    by_cases q2 : j = i
    · rw [if_pos ⟨rfl, q2⟩, if_pos q2]
    · rw [if_neg (by omega), if_neg q2, e1, zI1, if_neg (by omega)]
theorem rd_endBody {s : zS} {i : Nat} {K : zS → Prop} {QX : zS → Prop} (hv : sV s) (hi : i < 2 ^ 31) (h : ∀ s', gF [12] s s' → sV s' → (∀ j, s'.1 32 j = s.1 32 j ∧ s'.1 29 j = s.1 29 j ∧ s'.1 31 j = s.1 31 j) → s'.1 8 5 = s.1 8 5 → (∀ j, j < 64 → s'.1 30 j = (if j = i then s.1 8 5 - s.1 29 i else s.1 30 j)) → K s') : zCT zZC zmX0_endBody [.ref 8, .int (nI i)] s (zQv K) QX := by
  refine rX0_endBody ?_
  unfold PX0_endBody_0
  rw [nI_clamp hi]
  have c1 : nI 64 ≤ nI i ↔ 64 ≤ i := nI_leI (by decide) hi
  rw [c1]
  refine ⟨fun z => absurd z (nI_pos hi), fun _ => ⟨fun q => h s gF.rf hv (fun _ => ⟨rfl, rfl, rfl⟩) rfl (fun j hj => by rw [if_neg (by omega)]), fun q => ⟨vp_in_nI (by omega) (by decide), vp_in_nI (by omega) (by decide), fun s1 e1 => ?_⟩⟩⟩
  have k1 : sR s s1 := by rw [e1]; exact (sR.rf hv).i _ (by omega)
  refine h s1 (by rw [e1]; exact gF.rf.i _ (m12 (by omega))) k1.2 (fun j => ⟨?_, ?_, ?_⟩) ?_ (fun j hj => ?_)
  · rw [e1, zI1, if_neg (by omega)]
  · rw [e1, zI1, if_neg (by omega)]
  · rw [e1, zI1, if_neg (by omega)]
  · rw [e1, zI1, if_neg (by omega)]
  · rw [e1, zI1]
    by_cases q2 : j = i
    · rw [if_pos ⟨rfl, q2⟩, if_pos q2]
    · rw [if_neg (by omega), if_neg q2]
