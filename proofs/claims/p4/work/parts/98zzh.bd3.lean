theorem ty_begin {s : zS} {r : Nat} {y : Int32} {K : zS → Prop} {QX : zS → Prop} (hv : sV s) (hr : r ≤ 2) (hy : y = nI (tyN r))
    (h : ∀ s', gF [13] s s' → sV s' → s'.1 5 5 = nI 0 → s'.1 21 0 = nI 2 → s'.1 22 0 = nI (tyN r) → tS s' ([], [(0, r, r, 0, false)], true) → K s') : zCT zZC zmX3_begin [.ref 5, .int y] s (zQv K) QX := by
  refine rX3_begin ?_
  unfold PX3_begin_0
  intro s1 e1 s2 e2
  have k2 : sR s s2 := by rw [e2, e1]; exact ((sR.rf hv).d _ (by decide)).i _ (by omega)
  refine rX3_open ?_
  unfold PX3_open_0
  have n2 : s2.1 5 5 = -1 := by rw [e2, zI1, if_neg (by omega), e1, zI1, if_pos ⟨rfl, rfl⟩]
  rw [n2, hy]
  refine ⟨fun z => absurd z (by decide), fun _ => ⟨fun z => absurd z (by decide), fun _ s3 e3 => ?_⟩⟩
  have e3' : s3 = zsI s2 5 5 0 := e3
  have n3 : s3.1 5 5 = 0 := by rw [e3', zI1, if_pos ⟨rfl, rfl⟩]
  have k3 : sR s s3 := by rw [e3']; exact k2.d _ (by decide)
  rw [n3]
  have c0 : (0 : Int32).toNatClampNeg = 0 := rfl
  rw [c0]
  refine ⟨by unfold vp_in; decide, fun s4 e4 => ?_⟩
  have n4 : s4.1 5 5 = 0 := by rw [e4, zI1, if_neg (by omega)]; exact n3
  rw [n4, c0]
  refine ⟨by unfold vp_in; decide, fun s5 e5 => ?_⟩
  have n5 : s5.1 5 5 = 0 := by rw [e5, zI1, if_neg (by omega)]; exact n4
  rw [n5, c0]
  refine ⟨by unfold vp_in; decide, fun s6 e6 => ?_⟩
  have n6 : s6.1 5 5 = 0 := by rw [e6, zI1, if_neg (by omega)]; exact n5
  have n56 : s5.1 5 6 = 0 := by rw [e5, zI1, if_neg (by omega), e4, zI1, if_neg (by omega), e3', zI1, if_neg (by omega), e2, zI1, if_pos ⟨rfl, rfl⟩]
  rw [n56] at e6
  rw [n6, c0]
  refine ⟨by unfold vp_in; decide, fun s7 e7 => ?_⟩
  have k7 : sR s s7 := by rw [e7, e6, e5, e4]; exact (((k3.i _ (by omega)).i _ (by omega)).i _ (by omega)).i _ (by omega)
  have g7 : gF [13] s s7 := by
    rw [e7, e6, e5, e4, e3', e2, e1]
    exact ((((((gF.rf.i _ (m13 (by omega))).i _ (m13 (by omega))).i _ (m13 (by omega))).i _ (m13 (by omega))).i _ (m13 (by omega))).i _ (m13 (by omega))).i _ (m13 (by omega))
  have n7 : s7.1 5 5 = nI 0 := by rw [e7, zI1, if_neg (by omega)]; exact n6
  have n21 : s7.1 21 0 = nI 2 := by rw [e7, zI1, if_neg (by omega), e6, zI1, if_neg (by omega), e5, zI1, if_neg (by omega), e4, zI1, if_pos ⟨rfl, rfl⟩]; rfl
  have n22 : s7.1 22 0 = nI (tyN r) := by rw [e7, zI1, if_neg (by omega), e6, zI1, if_neg (by omega), e5, zI1, if_pos ⟨rfl, rfl⟩]
  refine h s7 g7 k7.2 n7 n21 n22 ⟨?_, by show 0 ≤ 16000; decide, List.cons_ne_nil _ _, by show 1 ≤ 61; decide, n7, trivial, n21, n22, ?_, ?_, by show 0 ≤ 5; decide, hr, rfl, Nat.le_refl _, trivial⟩
  · rw [e7, zI1, if_neg (by omega), e6, zI1, if_neg (by omega)]; exact n56
  · show s7.1 23 0 = nI 0
    rw [e7, zI1, if_neg (by omega), e6, zI1, if_pos ⟨rfl, rfl⟩]; rfl
  · show s7.1 24 0 = bI false
    rw [e7, zI1, if_pos ⟨rfl, rfl⟩]; rfl
/-- a body's beginning: o is its signature, if there is one -/
def sgO (y : Int32) (S : List mSigT) (g : mSigT) : Prop := (∃ n, y = nI n ∧ S[n]? = some g) ∨ (y = -1 ∧ g = ([], 2))
theorem rd_begin {s : zS} {y : Int32} {S : List mSigT} {g : mSigT} {K : zS → Prop} {QX : zS → Prop} (hv : sV s) (hS : sgR s S) (hy : sgO y S g)
    (h : ∀ s', gF [13, 15] s s' → sV s' → s'.1 5 5 = nI 0 → s'.1 21 0 = nI 2 → s'.1 22 0 = nI (tyN g.2) → tS s' ([], [(0, g.2, g.2, 0, false)], true) → lcR s' g.1 → K s') : zCT zZC zmX7_begin [.ref 7, .int y] s (zQv K) QX := by
  have hg : sigOk g := by
    rcases hy with ⟨n, -, hn⟩ | ⟨-, rfl⟩
    · exact (hS.2 n g hn).1
    · exact ⟨by decide, fun x hx => absurd hx List.not_mem_nil, by decide⟩
  have h16 := hg.1
  have hr := hg.2.2
  -- tS looks at part 13 alone
  have tq : ∀ {u v : zS} {t : tT}, gF [15] u v → tS u t → tS v t := by
    intro u v t g1 hS
    have q : ∀ c i, c = 5 ∨ (21 ≤ c ∧ c ≤ 25) → v.1 c i = u.1 c i := fun c i hc => (g1 c i (by
      have e : cown c i = 13 := by
        have q : c = 5 ∨ c = 21 ∨ c = 22 ∨ c = 23 ∨ c = 24 ∨ c = 25 := by omega
        rcases q with rfl | rfl | rfl | rfl | rfl | rfl <;> rfl
      rw [e]; decide)).1
    have ts : ∀ l : List Nat, tsC u l → tsC v l := by
      intro l
      induction l with
      | nil => intro _; trivial
      | cons x r ih => intro z; exact ⟨by rw [q 25 _ (by omega)]; exact z.1, z.2.1, ih z.2.2⟩
    have fs : ∀ (l : List tF) (n : Nat), fsC u n l → fsC v n l := by
      intro l
      induction l with
      | nil => intro n _; trivial
      | cons f r ih =>
        intro n z
        obtain ⟨z1, z2, z3, z4, z5, z6, z7, z8, z9⟩ := z
        exact ⟨by rw [q 21 _ (by omega)]; exact z1, by rw [q 22 _ (by omega)]; exact z2, by rw [q 23 _ (by omega)]; exact z3, by rw [q 24 _ (by omega)]; exact z4, z5, z6, z7, z8, ih _ z9⟩
    obtain ⟨a1, a2, a3, a4, a5, a6, a7⟩ := hS
    exact ⟨by rw [q 5 6 (by omega)]; exact a1, a2, a3, a4, by rw [q 5 5 (by omega)]; exact a5, ts _ a6, fs _ _ a7⟩
  refine rX7_begin (fun m x1 x2 σ => ∃ j, m + j = 100 ∧ x1 = y ∧ x2 = nI j ∧ j ≤ g.1.length ∧ gF [13, 15] s σ ∧ sV σ ∧ s.1 = s.1 ∧ σ.1 5 5 = nI 0 ∧ σ.1 21 0 = nI 2 ∧ σ.1 22 0 = nI (tyN g.2) ∧ tS σ ([], [(0, g.2, g.2, 0, false)], true) ∧ lcR σ (g.1.take j)) ?_ ?_
  · rintro m x1 x2 σ ⟨j, hm, rfl, rfl, hj, gg, v, -, h1, h2, h3, h4, h5⟩
    unfold PX7_begin_22
    have sg := sgR_q (gg.g (k := 1) (by decide)) hS
    have done : g.1.length ≤ j → K σ := fun q => by
      have e : g.1.take j = g.1 := List.take_of_length_le q
      rw [e] at h5
      exact h σ gg v h1 h2 h3 h4 h5
    rcases hy with ⟨n, rfl, hn⟩ | ⟨rfl, rfl⟩
    · refine rd_parameterCount sg hn ?_
      have c1 : nI g.1.length ≤ nI j ↔ g.1.length ≤ j := nI_leI (by omega) (by omega)
      rw [c1]
      refine ⟨fun q => done q, fun q => ?_⟩
      refine rd_parameter sg hn (by omega) ?_
      have hp : g.1.getD j 0 ≤ 1 := by
        rw [List.getD_eq_getElem?_getD, List.getElem?_eq_getElem (show j < g.1.length by omega)]
        exact hg.2.1 _ (List.getElem_mem _)
      refine rd_addLocals (n := 1) v h5 (by rw [List.length_take]; omega) hp (fun s5 g5 v5 L5 => ?_)
      have q13 : ∀ c i, c = 5 ∨ c = 21 ∨ c = 22 → s5.1 c i = σ.1 c i := fun c i hc => (g5 c i (by
        have e : cown c i = 13 := by rcases hc with rfl | rfl | rfl <;> rfl
        rw [e]; decide)).1
      refine ⟨m - 1, by show m - 1 < m; omega, j + 1, by omega, rfl, nI_1 j, by omega, gg.trans (g5.mono (by decide)), v5, rfl, by rw [q13 5 5 (by omega)]; exact h1, by rw [q13 21 0 (by omega)]; exact h2, by rw [q13 22 0 (by omega)]; exact h3, tq g5 h4, ?_⟩
      have e : g.1.take (j + 1) = g.1.take j ++ List.replicate 1 (g.1.getD j 0) := by
        rw [List.take_add_one, List.getD_eq_getElem?_getD, List.getElem?_eq_getElem (show j < g.1.length by omega)]
        rfl
      rw [e]
      exact L5
    · refine rd_parameterCount_n ?_
      exact ⟨fun _ => done (Nat.zero_le _), fun z => absurd (nI_pos' (by have : j ≤ 0 := hj; omega)) z⟩
  · unfold PX7_begin_0
    have beg : ∀ r : Int32, r = nI (tyN g.2) → zCT zZC zmX3_begin [.ref 5, .int r] s (zQv (fun s3 => ∀ s4 : zS, s4 = zsI s3 7 3 (0 : Int32) → ∃ n', zlt n' none ∧ ∃ j, n' + j = 100 ∧ y = y ∧ (0 : Int32) = nI j ∧ j ≤ g.1.length ∧ gF [13, 15] s s4 ∧ sV s4 ∧ s.1 = s.1 ∧ s4.1 5 5 = nI 0 ∧ s4.1 21 0 = nI 2 ∧ s4.1 22 0 = nI (tyN g.2) ∧ tS s4 ([], [(0, g.2, g.2, 0, false)], true) ∧ lcR s4 (g.1.take j))) QX := by
      intro r hr2
      refine ty_begin hv hr hr2 (fun s3 g3 v3 h1 h2 h3 h4 s4 e4 => ?_)
      have g4 : gF [15] s3 s4 := by rw [e4]; exact gF.rf.i _ (m15 (by omega))
      have k4 : sR s3 s4 := by rw [e4]; exact (sR.rf v3).v _ (by omega) (by decide)
      refine ⟨100, trivial, 0, rfl, rfl, rfl, Nat.zero_le _, (g3.mono (by decide)).trans (g4.mono (by decide)), k4.2, rfl, ?_, ?_, ?_, tq g4 h4, ⟨by simp, by rw [e4, zI1, if_pos ⟨rfl, rfl⟩]; rfl, fun i x hx => by simp at hx⟩⟩
      · rw [e4, zI1, if_neg (by omega)]; exact h1
      · rw [e4, zI1, if_neg (by omega)]; exact h2
      · rw [e4, zI1, if_neg (by omega)]; exact h3
    rcases hy with ⟨n, rfl, hn⟩ | ⟨rfl, rfl⟩
    · exact rd_resultOf hS hn (beg _ rfl)
    · exact rd_resultOf_n (beg _ rfl)
