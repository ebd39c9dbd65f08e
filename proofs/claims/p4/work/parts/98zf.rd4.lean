/-! THE CLASS: which part of its state a cell belongs to; its facts -/
def cown (c i : Nat) : Nat :=
  if c = 1 then (if 2 ≤ i ∧ i ≤ 5 then 0 else 99)
  else if c = 2 then (if i = 8 ∨ i = 9 then 2 else if i = 12 ∨ i = 13 then 3 else if i = 10 then 4 else if i = 11 then 5 else if i = 14 then 6 else 99)
  else if 11 ≤ c ∧ c ≤ 13 then 1
  else if c = 14 then 2
  else if c = 15 ∨ c = 16 then 3
  else if c = 17 then 7
  else if c = 18 then 8
  else if c = 19 ∨ c = 20 then 9
  else if c = 3 then 10
  else if c = 4 then 11
  else if c = 5 ∨ (21 ≤ c ∧ c ≤ 25) then 13
  else if c = 6 ∨ c = 26 then 14
  else if c = 7 ∨ c = 27 then 15
  else if c = 28 ∨ (c = 8 ∧ i = 6) then 16
  else if c = 8 ∨ (29 ≤ c ∧ c ≤ 32) then 12
  else 99
/-- only these parts are written -/
def gF (l : List Nat) (σ s : zS) : Prop := ∀ c i, ¬ cown c i ∈ l → s.1 c i = σ.1 c i ∧ s.2 c i = σ.2 c i
/-- a part is as it was -/
def gQ (k : Nat) (σ s : zS) : Prop := ∀ c i, cown c i = k → s.1 c i = σ.1 c i ∧ s.2 c i = σ.2 c i
theorem gF.rf {l : List Nat} {σ : zS} : gF l σ σ := fun _ _ _ => ⟨rfl, rfl⟩
theorem gF.trans {l : List Nat} {σ s u : zS} (h : gF l σ s) (h2 : gF l s u) : gF l σ u := fun c i a => ⟨(h2 c i a).1.trans (h c i a).1, (h2 c i a).2.trans (h c i a).2⟩
theorem gF.mono {l m : List Nat} {σ s : zS} (h : gF l σ s) (hm : ∀ x ∈ l, x ∈ m) : gF m σ s := fun c i a => h c i (fun z => a (hm _ z))
theorem gF.i {l : List Nat} {σ s : zS} (h : gF l σ s) {c j : Nat} (x : Int32) (hc : cown c j ∈ l) : gF l σ (zsI s c j x) := fun a i ha => ⟨by
  rw [zI1, if_neg (fun z => ha (by rw [z.1, z.2]; exact hc))]; exact (h a i ha).1, (h a i ha).2⟩
theorem gF.l {l : List Nat} {σ s : zS} (h : gF l σ s) {c j : Nat} (x : Int64) (hc : cown c j ∈ l) : gF l σ (zsL s c j x) := fun a i ha => ⟨(h a i ha).1, by
  show (if a = c ∧ i = j then x else s.2 a i) = _
  rw [if_neg (fun z => ha (by rw [z.1, z.2]; exact hc))]; exact (h a i ha).2⟩
theorem gF.g {l : List Nat} {k : Nat} {σ s : zS} (h : gF l σ s) (hk : ¬ k ∈ l) : gQ k σ s := fun c i e => h c i (by rw [e]; exact hk)
theorem gQ.trans {k : Nat} {σ s u : zS} (h : gQ k σ s) (h2 : gQ k s u) : gQ k σ u := fun c i a => ⟨(h2 c i a).1.trans (h c i a).1, (h2 c i a).2.trans (h c i a).2⟩
theorem fK.g {σ s : zS} (h : fK σ s) : gF [0] σ s := fun c i a => by
  refine h c i (fun z => a ?_)
  rw [z.1]
  unfold cown
  rw [if_pos rfl, if_pos ⟨z.2.1, z.2.2⟩]
  exact List.mem_singleton.2 rfl
theorem gF.q {l : List Nat} {σ s : zS} (h : gF l σ s) (h9 : ¬ 99 ∈ l) : sQ σ s := fun c i hc => by
  refine (h c i ?_).1
  have e : cown c i = 99 := by
    have q : c = 0 ∨ c = 9 ∨ c = 10 ∨ (c = 1 ∧ i = 1) ∨ c = 33 ∨ c = 34 ∨ c = 35 ∨ c = 36 ∨ c = 37 := by omega
    rcases q with rfl | rfl | rfl | ⟨rfl, rfl⟩ | rfl | rfl | rfl | rfl | rfl <;> rfl
  rw [e]
  exact h9
theorem gF.st {l : List Nat} {σ s : zS} {b : Nat → Nat} {e a : Nat} (h : gF l σ s) (h0 : ¬ 0 ∈ l) (h9 : ¬ 99 ∈ l) (hv : sV s) (hs : cSt σ b e a) : cSt s b e a := by
  obtain ⟨h1, h2, h3, h4, h5, h6, -⟩ := hs
  have g : ∀ i, 2 ≤ i → i ≤ 5 → s.1 1 i = σ.1 1 i := fun i q1 q2 => (h 1 i (by unfold cown; rw [if_pos rfl, if_pos ⟨q1, q2⟩]; exact h0)).1
  exact ⟨fun j hj => ⟨(h1 j hj).1, by rw [(h.q h9) 10 j (by omega)]; exact (h1 j hj).2⟩, h2, by rw [g 4 (by decide) (by decide)]; exact h3, by rw [g 2 (by decide) (by decide)]; exact h4, by rw [g 3 (by decide) (by decide)]; exact h5, h6, hv⟩
theorem gmem {c j k : Nat} {l : List Nat} (h : cown c j = k) (hk : k ∈ l) : cown c j ∈ l := by rw [h]; exact hk
/-- something is noted as wrong -/
def wr (s : zS) : Prop := ∃ k, k < 16 ∧ ¬ s.1 17 k < 0
theorem wr_q {σ s : zS} (h : gQ 7 σ s) : wr s ↔ wr σ := by
  constructor
  · rintro ⟨k, h1, h2⟩; exact ⟨k, h1, by rw [← (h 17 k rfl).1]; exact h2⟩
  · rintro ⟨k, h1, h2⟩; exact ⟨k, h1, by rw [(h 17 k rfl).1]; exact h2⟩
theorem rd_noteWrong {s : zS} (k p : Nat) {o w : Int32} {K : zS → Prop} {QX : zS → Prop} (hv : sV s) (ho : o = nI k) (hk : k < 16) (hw : w = nI p) (hp : p < 2 ^ 31) (h : ∀ s', gF [7] s s' → sV s' → wr s' → K s') : zCT zZC zmX2_noteWrong [.ref 2, .int o, .int w] s (zQv K) QX := by
  refine rX2_noteWrong ?_
  unfold PX2_noteWrong_0
  have k0 : sR s s := ⟨sK.rf, hv⟩
  rw [ho, hw, nI_clamp (by omega)]
  have c0 : ¬ nI k < (0 : Int32) := nI_pos (by omega)
  have c1 : ¬ nI 16 ≤ nI k := fun z => by have := (nI_leI (a := 16) (by decide) (by omega)).1 z; omega
  refine ⟨fun z => absurd z c0, fun _ => ⟨fun z => absurd z c1, fun _ => ⟨vp_in_nI (by omega) (by decide), fun c => h s gF.rf hv ⟨k, hk, fun z => absurd z (Int32.not_lt.2 c)⟩, fun c => ⟨vp_in_nI (by omega) (by decide), fun s1 e1 => ?_⟩⟩⟩⟩
  have k1 : sR s s1 := by rw [e1]; exact k0.i _ (by omega)
  refine h s1 (by rw [e1]; exact gF.rf.i _ (by exact List.mem_singleton.2 rfl)) k1.2 ⟨k, hk, ?_⟩
  rw [e1, zI1, if_pos ⟨rfl, rfl⟩]
  exact nI_pos hp
theorem rd_firstWrong {s : zS} {K : Int32 → zS → Prop} {QX : zS → Prop} (h : ∀ r : Int32, (r < 0 ↔ ¬ wr s) → K r s) : zCT zZC zmX2_firstWrong [.ref 2] s (zQi K) QX := by
  refine rX2_firstWrong (fun m x1 σ => ∃ k, m + k = 16 ∧ x1 = nI k ∧ σ = s ∧ ∀ j, j < k → s.1 17 j < 0) ?_ ?_
  · rintro m x1 σ ⟨k, hm, rfl, rfl, hj⟩
    unfold PX2_firstWrong_2
    have c1 : nI 16 ≤ nI k ↔ 16 ≤ k := nI_leI (by decide) (by omega)
    rw [c1]
    refine ⟨fun q => h _ ⟨fun _ => ?_, fun _ => by decide⟩, fun q => ⟨vp_in_nI (by omega) (by decide), ?_⟩⟩
    · rintro ⟨j, h1, h2⟩
      exact h2 (hj j (by omega))
    · rw [nI_clamp (by omega)]
      refine ⟨fun c => ⟨m - 1, by show m - 1 < m; omega, k + 1, by omega, nI_1 k, rfl, fun j hj2 => ?_⟩, fun c => ⟨vp_in_nI (by omega) (by decide), h _ ⟨fun z => absurd z c, fun z => absurd ⟨k, by omega, c⟩ z⟩⟩⟩
      by_cases q2 : j = k
      · rw [q2]; exact c
      · exact hj j (by omega)
  · unfold PX2_firstWrong_0
    exact ⟨16, trivial, 0, rfl, rfl, rfl, fun j hj => absurd hj (Nat.not_lt_zero _)⟩
/-- signatures -/
def sgR (s : zS) (l : List mSigT) : Prop := l.length ≤ 64 ∧ ∀ i g, l[i]? = some g → sigOk g ∧ s.1 11 i = nI g.1.length ∧ (∀ j, j < g.1.length → s.1 12 (i * 16 + j) = nI (tyN (g.1.getD j 0))) ∧ s.1 13 i = nI (tyN g.2)
theorem sgR_q {σ s : zS} {l : List mSigT} (h : gQ 1 σ s) (r : sgR σ l) : sgR s l := ⟨r.1, fun i g e => by
  obtain ⟨h1, h2, h3, h4⟩ := r.2 i g e
  exact ⟨h1, by rw [(h 11 i rfl).1]; exact h2, fun j hj => by rw [(h 12 _ rfl).1]; exact h3 j hj, by rw [(h 13 i rfl).1]; exact h4⟩⟩
def sgI (n x : Nat) : Int32 := if x < n then nI x else -1
/-- the functions' signatures, n of them there are -/
def fnR (s : zS) (n : Nat) (L : List Nat) : Prop := L.length ≤ 96 ∧ s.1 2 8 = nI L.length ∧ ∀ i x, L[i]? = some x → s.1 14 i = sgI n x
theorem fnR_q {σ s : zS} {n : Nat} {L : List Nat} (h : gQ 2 σ s) (r : fnR σ n L) : fnR s n L := ⟨r.1, by rw [(h 2 8 rfl).1]; exact r.2.1, fun i x e => by rw [(h 14 i rfl).1]; exact r.2.2 i x e⟩
/-- the globals' types, and if they change -/
def glR (s : zS) (G : List (Nat × Nat)) : Prop := G.length ≤ 64 ∧ s.1 2 12 = nI G.length ∧ ∀ i g, G[i]? = some g → g.1 ≤ 1 ∧ g.2 ≤ 1 ∧ s.1 15 i = nI (tyN g.1) ∧ s.1 16 i = nI g.2
theorem glR_q {σ s : zS} {G : List (Nat × Nat)} (h : gQ 3 σ s) (r : glR σ G) : glR s G := ⟨r.1, by rw [(h 2 12 rfl).1]; exact r.2.1, fun i g e => by
  obtain ⟨h1, h2, h3, h4⟩ := r.2.2 i g e
  exact ⟨h1, h2, by rw [(h 15 i rfl).1]; exact h3, by rw [(h 16 i rfl).1]; exact h4⟩⟩
theorem rd_addFunction {s : zS} {n x : Nat} {L : List Nat} {K : zS → Prop} {QX : zS → Prop} (hv : sV s) (hf : fnR s n L) (hl : L.length < 96) (hn : s.1 18 1 = nI n) (hn2 : n ≤ 64) (hx : x < 2 ^ 35) (h : ∀ s', gF [2] s s' → sV s' → fnR s' n (L ++ [x]) → s'.1 2 9 = s.1 2 9 → K s') : zCT zZC zmX2_addFunction [.ref 2, .long (lN x)] s (zQv K) QX := by
  refine rX2_addFunction ?_
  unfold PX2_addFunction_0
  have k0 : sR s s := ⟨sK.rf, hv⟩
  obtain ⟨h1, h2, h3⟩ := id hf
  have c0 : ¬ nI 96 ≤ nI L.length := fun z => by have := (nI_leI (a := 96) (by decide) (by omega)).1 z; omega
  have c1 : (((s.1 18 (1 : Int32).toNatClampNeg).toInt64) ≤ lN x) ↔ n ≤ x := by
    rw [show (1 : Int32).toNatClampNeg = 1 from rfl, hn, nI_l (by omega), lN_leB (by omega) (by omega)]
  rw [c1, h2, lN_i, nI_clamp (by omega)]
  have fin : ∀ (v : Int32), v = sgI n x → ∀ s1 : zS, s1 = zsI s 14 L.length v → ∀ s2 : zS, s2 = zsI s1 2 8 ((s1.1 2 8) + (1 : Int32)) → K s2 := by
    intro v hv2 s1 e1 s2 e2
    have n1 : s1.1 2 8 = nI L.length := by rw [e1, zI1, if_neg (by omega)]; exact h2
    have k1 : sR s s1 := by rw [e1]; exact k0.i _ (by omega)
    rw [n1, nI_1] at e2
    have k2 : sR s s2 := by rw [e2]; exact k1.v _ (by omega) (by rw [nI_toInt (by omega)]; omega)
    refine h s2 (by rw [e2, e1]; exact (gF.rf.i _ (by exact List.mem_singleton.2 rfl)).i _ (by exact List.mem_singleton.2 rfl)) k2.2 ⟨by simp; omega, by rw [e2, zI1, if_pos ⟨rfl, rfl⟩]; simp, fun i y hy => ?_⟩ (by rw [e2, zI1, if_neg (by omega), e1, zI1, if_neg (by omega)])
    rw [e2, zI1, if_neg (by omega), e1, zI1]
    by_cases q : i = L.length
    · rw [if_pos ⟨rfl, q⟩]
      rw [q, List.getElem?_append_right (Nat.le_refl _), Nat.sub_self] at hy
      cases hy
      exact hv2
    · rw [if_neg (by omega)]
      have hi : i < L.length := by
        have := (List.getElem?_eq_some_iff.1 hy).1
        rw [List.length_append] at this
        simp at this
        omega
      rw [List.getElem?_append_left hi] at hy
      exact h3 i y hy
  refine ⟨fun z => absurd z c0, fun _ => ⟨by unfold vp_in; decide, fun c => ⟨vp_in_nI (by omega) (by decide), fun s1 e1 s2 e2 => fin (-1) ?_ s1 e1 s2 e2⟩, fun c => ⟨vp_in_nI (by omega) (by decide), fun s1 e1 s2 e2 => fin (nI x) ?_ s1 e1 s2 e2⟩⟩⟩
  · unfold sgI; rw [if_neg (by omega)]
  · unfold sgI; rw [if_pos (by omega)]
theorem rd_addGlobal {s : zS} {t c : Nat} {G : List (Nat × Nat)} {ti ci : Int32} {K : zS → Prop} {QX : zS → Prop} (hv : sV s) (hg : glR s G) (hl : G.length < 64) (ht : t ≤ 1) (hc : c ≤ 1) (hti : ti = nI (tyN t)) (hci : ci = nI c) (h : ∀ s', gF [3] s s' → sV s' → glR s' (G ++ [(t, c)]) → s'.1 2 13 = s.1 2 13 → K s') : zCT zZC zmX2_addGlobal [.ref 2, .int ti, .int ci] s (zQv K) QX := by
  refine rX2_addGlobal ?_
  unfold PX2_addGlobal_0
  have k0 : sR s s := ⟨sK.rf, hv⟩
  obtain ⟨h1, h2, h3⟩ := id hg
  have c0 : ¬ nI 64 ≤ nI G.length := fun z => by have := (nI_leI (a := 64) (by decide) (by omega)).1 z; omega
  rw [h2, nI_clamp (by omega)]
  refine ⟨fun z => absurd z c0, fun _ => ⟨vp_in_nI (by omega) (by decide), fun s1 e1 => ?_⟩⟩
  have n1 : s1.1 2 12 = nI G.length := by rw [e1, zI1, if_neg (by omega)]; exact h2
  have k1 : sR s s1 := by rw [e1]; exact k0.i _ (by omega)
  rw [n1, nI_clamp (by omega)]
  refine ⟨vp_in_nI (by omega) (by decide), fun s2 e2 s3 e3 => ?_⟩
  have n2 : s2.1 2 12 = nI G.length := by rw [e2, zI1, if_neg (by omega)]; exact n1
  have k2 : sR s s2 := by rw [e2]; exact k1.i _ (by omega)
  rw [n2, nI_1] at e3
  have k3 : sR s s3 := by rw [e3]; exact k2.v _ (by omega) (by rw [nI_toInt (by omega)]; omega)
  have ec : vp_nar .boolean ci = nI c := by
    rw [hci]
    have : c = 0 ∨ c = 1 := by omega
    rcases this with rfl | rfl <;> decide
  refine h s3 (by rw [e3, e2, e1]; exact ((gF.rf.i _ (by exact List.mem_singleton.2 rfl)).i _ (by exact List.mem_singleton.2 rfl)).i _ (by exact List.mem_singleton.2 rfl)) k3.2 ⟨by simp; omega, by rw [e3, zI1, if_pos ⟨rfl, rfl⟩]; simp, fun i y hy => ?_⟩ (by rw [e3, zI1, if_neg (by omega), e2, zI1, if_neg (by omega), e1, zI1, if_neg (by omega)])
  have e15 : s3.1 15 i = if i = G.length then ti else s.1 15 i := by
    rw [e3, zI1, if_neg (by omega), e2, zI1, if_neg (by omega), e1, zI1]
    by_cases q : i = G.length
    · rw [if_pos ⟨rfl, q⟩, if_pos q]
    · rw [if_neg (by omega), if_neg q]
  have e16 : s3.1 16 i = if i = G.length then nI c else s.1 16 i := by
    rw [e3, zI1, if_neg (by omega), e2, zI1, ec]
    by_cases q : i = G.length
    · rw [if_pos ⟨rfl, q⟩, if_pos q]
    · rw [if_neg (by omega), if_neg q, e1, zI1, if_neg (by omega)]
  rw [e15, e16]
  by_cases q : i = G.length
  · rw [q, List.getElem?_append_right (Nat.le_refl _), Nat.sub_self] at hy
    cases hy
    rw [if_pos q, if_pos q]
    exact ⟨ht, hc, hti, rfl⟩
  · have hi : i < G.length := by
      have := (List.getElem?_eq_some_iff.1 hy).1
      rw [List.length_append] at this
      simp at this
      omega
    rw [List.getElem?_append_left hi] at hy
    rw [if_neg q, if_neg q]
    exact h3 i y hy
