theorem mSameTo_f {b : Nat → Nat} {p o j : Nat} : ∀ n, j < n → ¬ b (p + j) = b (o + j) → mSameTo b p o n = false := by
  intro n
  induction n with
  | zero => intro hj; exact absurd hj (Nat.not_lt_zero _)
  | succ n ih =>
    intro hj hb
    unfold mSameTo
    by_cases q : j < n
    · rw [ih q hb]; rfl
    · have e : j = n := by omega
      subst e
      rw [decide_eq_false hb, Bool.and_false]
theorem rd_sameBytes {s : zS} {b : Nat → Nat} {p o n : Nat} {K : Int32 → zS → Prop} {QX : zS → Prop} (hb : cB s b) (hp : p + n ≤ 16000) (ho : o + n ≤ 16000) (h : K (bI (mSameTo b p o n)) s) : zCT zZC zmX4_sameBytes [.ref 1, .int (nI p), .int (nI o), .int (nI n)] s (zQi K) QX := by
  refine rX4_sameBytes (fun m x1 x2 x3 x4 σ => ∃ j, m + j = n ∧ x1 = nI p ∧ x2 = nI o ∧ x3 = nI n ∧ x4 = nI j ∧ σ = s ∧ mSameTo b p o j = true) ?_ ?_
  · rintro m x1 x2 x3 x4 σ ⟨j, hm, rfl, rfl, rfl, rfl, rfl, hj⟩
    unfold PX4_sameBytes_35
    have c1 : nI n ≤ nI j ↔ n ≤ j := nI_leI (by omega) (by omega)
    rw [c1, nI_add, nI_add]
    refine ⟨fun c => ⟨Or.inr rfl, ?_⟩, fun c => ⟨vp_in_nI (by omega) (by decide), vp_in_nI (by omega) (by decide), ?_⟩⟩
    · have e : j = n := by omega
      subst e
      rw [hj] at h
      exact h
    · rw [nI_clamp (by omega), nI_clamp (by omega), (hb (p + j) (by omega)).2, (hb (o + j) (by omega)).2, sb_inj (hb _ (by omega)).1 (hb _ (by omega)).1]
      refine ⟨fun c2 => ⟨m - 1, by show m - 1 < m; omega, j + 1, by omega, rfl, rfl, rfl, nI_1 j, rfl, ?_⟩, fun c2 => ⟨Or.inl rfl, ?_⟩⟩
      · unfold mSameTo
        rw [hj, decide_eq_true c2]; rfl
      · rw [mSameTo_f n (by omega) c2] at h
        exact h
  · unfold PX4_sameBytes_0
    have e : nI 16000 - nI n = nI (16000 - n) := pk_sub (by omega)
    have c1 : nI (16000 - n) < nI p ↔ 16000 - n < p := nI_ltI (by omega) (by omega)
    have c2 : nI o ≤ nI (16000 - n) ↔ o ≤ 16000 - n := nI_leI (by omega) (by omega)
    rw [e, c1, c2]
    exact ⟨fun z => absurd z (nI_pos (by omega)), fun _ => ⟨fun z => absurd z (nI_pos (by omega)), fun _ => ⟨fun z => absurd z (by omega), fun _ => ⟨fun _ => ⟨n, trivial, 0, rfl, rfl, rfl, rfl, rfl, rfl, rfl⟩, fun z => absurd (by omega) z⟩⟩⟩⟩
/-- the names of the exports so far -/
def nmR (s : zS) (X : List (Nat × Nat)) : Prop := X.length ≤ 64 ∧ ∀ i x, X[i]? = some x → x.1 + x.2 ≤ 16000 ∧ s.1 19 i = nI x.1 ∧ s.1 20 i = nI x.2
theorem nmR_q {σ s : zS} {X : List (Nat × Nat)} (h : gQ 9 σ s) (r : nmR σ X) : nmR s X := ⟨r.1, fun i x e => by
  obtain ⟨h1, h2, h3⟩ := r.2 i x e
  exact ⟨h1, by rw [(h 19 i rfl).1]; exact h2, by rw [(h 20 i rfl).1]; exact h3⟩⟩
def nmHas (b : Nat → Nat) (st ln : Nat) (x : Nat × Nat) : Bool := decide (x.2 = ln) && mSameTo b x.1 st ln
theorem rd_isExported {s : zS} {b : Nat → Nat} {st ln : Nat} {X : List (Nat × Nat)} {K : Int32 → zS → Prop} {QX : zS → Prop} (hb : cB s b) (hX : nmR s X) (h7 : s.1 18 7 = nI X.length) (hst : st + ln ≤ 16000) (h : K (bI (X.any (nmHas b st ln))) s) : zCT zZC zmX6_isExported [.ref 3, .int (nI st), .int (nI ln)] s (zQi K) QX := by
  have h64 := hX.1
  refine rX6_isExported (fun m x1 x2 x3 σ => ∃ j, m + j = 64 ∧ j ≤ X.length ∧ x1 = nI st ∧ x2 = nI ln ∧ x3 = nI j ∧ σ = s ∧ X.any (nmHas b st ln) = (X.drop j).any (nmHas b st ln)) ?_ ?_
  · rintro m x1 x2 x3 σ ⟨j, hm, hj, rfl, rfl, rfl, rfl, hd⟩
    unfold PX6_isExported_2
    have c1 : (σ.1 18 (7 : Int32).toNatClampNeg) ≤ nI j ↔ X.length ≤ j := by
      rw [show (7 : Int32).toNatClampNeg = 7 from rfl, h7, nI_leI (by omega) (by omega)]
    have c2 : nI 64 ≤ nI j ↔ 64 ≤ j := nI_leI (by decide) (by omega)
    rw [c1, c2]
    refine ⟨by unfold vp_in; decide, fun c => ⟨Or.inl rfl, ?_⟩, fun c => ⟨fun z => absurd z (by omega), fun _ => ⟨vp_in_nI (by omega) (by decide), ?_⟩⟩⟩
    · rw [hd, List.drop_eq_nil_of_le c] at h
      exact h
    · have hj2 : j < X.length := by omega
      have e := List.getElem?_eq_getElem (l := X) (i := j) hj2
      obtain ⟨g1, g2, g3⟩ := hX.2 j _ e
      have hd2 : (X.drop j).any (nmHas b st ln) = (nmHas b st ln X[j] || (X.drop (j + 1)).any (nmHas b st ln)) := by
        rw [List.drop_eq_getElem_cons hj2]; rfl
      rw [nI_clamp (by omega), g3, g2]
      have c3 : nI X[j].2 = nI ln ↔ X[j].2 = ln := nI_eq (by omega) (by omega)
      rw [c3]
      have next : nmHas b st ln X[j] = false → ∃ n', zlt n' (some m) ∧ ∃ j', n' + j' = 64 ∧ j' ≤ X.length ∧ nI st = nI st ∧ nI ln = nI ln ∧ nI j + 1 = nI j' ∧ σ = σ ∧ X.any (nmHas b st ln) = (X.drop j').any (nmHas b st ln) := fun z =>
        ⟨m - 1, by show m - 1 < m; omega, j + 1, by omega, by omega, rfl, rfl, nI_1 j, rfl, by rw [hd, hd2, z, Bool.false_or]⟩
      refine ⟨fun c4 => ⟨vp_in_nI (by omega) (by decide), ?_⟩, fun c4 => next (by unfold nmHas; rw [decide_eq_false c4, Bool.false_and])⟩
      refine rd_sameBytes hb (by omega) hst ?_
      have eh : nmHas b st ln X[j] = mSameTo b X[j].1 st ln := by unfold nmHas; rw [decide_eq_true c4, Bool.true_and]
      cases q : mSameTo b X[j].1 st ln with
      | false => exact ⟨fun _ => next (by rw [eh, q]), fun z => absurd rfl z⟩
      | true =>
        refine ⟨fun z => absurd z (by decide), fun _ => ⟨Or.inr rfl, ?_⟩⟩
        rw [hd, hd2, eh, q, Bool.true_or] at h
        exact h
  · unfold PX6_isExported_0
    exact ⟨64, trivial, 0, rfl, Nat.zero_le _, rfl, rfl, rfl, rfl, by rw [List.drop_zero]⟩
theorem rd_countOfKind {s : zS} {k : Nat} {c : Nat → Nat} {K : Int32 → zS → Prop} {QX : zS → Prop} (hk : k ≤ 3) (h0 : s.1 2 8 = nI (c 0)) (h1 : s.1 2 10 = nI (c 1)) (h2 : s.1 2 11 = nI (c 2)) (h3 : s.1 2 12 = nI (c 3)) (h : K (nI (c k)) s) : zCT zZC zmX2_countOfKind [.ref 2, .int (nI k)] s (zQi K) QX := by
  refine rX2_countOfKind ?_
  unfold PX2_countOfKind_0
  have e0 : nI k = (0 : Int32) ↔ k = 0 := nI_eq (b := 0) (by omega) (by decide)
  have e1 : nI k = (1 : Int32) ↔ k = 1 := nI_eq (b := 1) (by omega) (by decide)
  have e2 : nI k = (2 : Int32) ↔ k = 2 := nI_eq (b := 2) (by omega) (by decide)
  rw [e0, e1, e2, h0, h1, h2, h3]
  refine ⟨fun z => by rw [z] at h; exact h, fun _ => ⟨fun z => by rw [z] at h; exact h, fun _ => ⟨fun z => by rw [z] at h; exact h, fun _ => ?_⟩⟩⟩
  have : k = 3 := by omega
  rw [this] at h; exact h
theorem rd_export {s : zS} {b : Nat → Nat} {e a : Nat} {c : Nat → Nat} {X : List (Nat × Nat)} {K : zS → Prop} {QX : zS → Prop} (hs : cSt s b e a) (hX : nmR s X) (h7 : s.1 18 7 = nI X.length) (hX2 : X.length < 64) (hc : ∀ k, c k < 2 ^ 30) (h0 : s.1 2 8 = nI (c 0)) (h1 : s.1 2 10 = nI (c 1)) (h2 : s.1 2 11 = nI (c 2)) (h3 : s.1 2 12 = nI (c 3))
    (h : mW (mEx b e a) (fun r => ∀ s', gF [0, 7, 9] s s' → cSt s' b e r.2 → nmR s' (X ++ [(r.1.2.1, r.1.2.2.1)]) → (wr s' ↔ wr s ∨ ¬ r.1.2.2.2.2.2 < c r.1.2.2.2.1 ∨ X.any (nmHas b r.1.2.1 r.1.2.2.1) = true) → K s') (cEv s K)) : zCT zZC zmX6_readExport [.ref 3] s (zQv K) QX := by
  have ha := hs.lt
  refine rX6_readExport ?_
  unfold PX6_readExport_0
  unfold mEx at h
  rw [mW_bind] at h
  refine rd_outerName hs (mW_mono h (fun n hn h s1 k1 hs1 => ?_) (fun k p hq h2 v s1 her q1 => er_X6_readExport_0_0 her.v (h2.go q1 her)))
  have hin := mName_in hn hs.2.2.2.2.2.1
  have he := hs.2.1
  have ex : (s1.1 1 2) - nI n.1.2 = nI n.1.1 := by
    rw [hs1.2.2.2.1, pk_sub (by omega), show n.2 - n.1.2 = n.1.1 by omega]
  have h : mW ((mOw b e 0 3 n.2).bind fun k => (mU b e k.2).bind fun u => .ok ((a, n.1.1, n.1.2, k.1, k.2, u.1), u.2)) (fun r => ∀ s', gF [0, 7, 9] s s' → cSt s' b e r.2 → nmR s' (X ++ [(r.1.2.1, r.1.2.2.1)]) → (wr s' ↔ wr s ∨ ¬ r.1.2.2.2.2.2 < c r.1.2.2.2.1 ∨ X.any (nmHas b r.1.2.1 r.1.2.2.1) = true) → K s') (cEv s K) := by
    have key : ((mOct b e n.2).bind fun k => if 3 < k.1 then (.error (1, n.2) : mE (mExT × Nat)) else (mU b e k.2).bind fun u => .ok ((a, n.1.1, n.1.2, k.1, k.2, u.1), u.2)) = ((mOw b e 0 3 n.2).bind fun k => (mU b e k.2).bind fun u => .ok ((a, n.1.1, n.1.2, k.1, k.2, u.1), u.2)) := by
      unfold mOw
      cases mOct b e n.2 with
      | error q => rfl
      | ok r =>
        show (if 3 < r.1 then (.error (1, n.2) : mE (mExT × Nat)) else _) = Except.bind (if 0 ≤ r.1 ∧ r.1 ≤ 3 then (.ok r : mE (Nat × Nat)) else .error (1, n.2)) _
        by_cases q : 3 < r.1
        · rw [if_pos q, if_neg (by omega)]; rfl
        · rw [if_neg q, if_pos ⟨by omega, by omega⟩]; rfl
    rw [← key]
    exact h
  rw [mW_bind] at h
  refine rd_octetWithin 0 3 hs1 rfl rfl (by decide) (by decide) (mW_mono h (fun kd hkd h s2 k2 hs2 => ?_) (fun k p hq h2 v s2 her q2 => er_X6_readExport_0_1 her.v (h2.go (k1.q.trans q2) her)))
  have hk3 := (mOw_in hkd).2.2.2
  have hk2 := hs2.lt
  rw [mW_bind] at h
  refine rd_number hs2 (mW_mono h (fun u hu h s3 k3 hs3 => ?_) (fun k p hq h2 v s3 her q3 => er_X6_readExport_0_2 her.v (h2.go ((k1.trans k2).q.trans q3) her)))
  have hu35 := mU_lt hu
  have k4 := (k1.trans k2).trans k3
  have g4 := k4.g
  have hX4 := nmR_q (g4.g (by decide)) hX
  have n7 : s3.1 18 7 = nI X.length := by rw [(g4.g (k := 8) (by decide) 18 7 rfl).1]; exact h7
  have m0 : s3.1 2 8 = nI (c 0) := by rw [(g4.g (k := 2) (by decide) 2 8 rfl).1]; exact h0
  have m1 : s3.1 2 10 = nI (c 1) := by rw [(g4.g (k := 4) (by decide) 2 10 rfl).1]; exact h1
  have m2 : s3.1 2 11 = nI (c 2) := by rw [(g4.g (k := 5) (by decide) 2 11 rfl).1]; exact h2
  have m3 : s3.1 2 12 = nI (c 3) := by rw [(g4.g (k := 3) (by decide) 2 12 rfl).1]; exact h3
  refine rd_countOfKind hk3 m0 m1 m2 m3 ?_
  have cc : lN u.1 < (nI (c kd.1)).toInt64 ↔ u.1 < c kd.1 := by
    have := hc kd.1
    rw [nI_l (by omega), lN_ltB (by omega) (by omega)]
  rw [cc, hs2.2.2.2.1, ex, hs.2.2.2.1]
  have hst : n.1.1 + n.1.2 ≤ 16000 := by omega
  have w3 := wr_q (g4.g (k := 7) (by decide))
  have j101 : ∀ s4, gF [7] s3 s4 → sV s4 → (wr s4 ↔ wr s ∨ ¬ u.1 < c kd.1 ∨ X.any (nmHas b n.1.1 n.1.2) = true) → PX6_readExport_101 (zQv K) QX (nI n.1.2) (nI n.1.1) s4 := by
    intro s4 g v w
    unfold PX6_readExport_101
    have n74 : s4.1 18 (7 : Int32).toNatClampNeg = nI X.length := by rw [show (7 : Int32).toNatClampNeg = 7 from rfl, (g.g (k := 8) (by decide) 18 7 rfl).1]; exact n7
    rw [n74, nI_clamp (by omega)]
    refine ⟨by unfold vp_in; decide, fun z => absurd ((nI_leI (by decide) (by omega)).1 z) (by omega), fun _ => ⟨vp_in_nI (by omega) (by decide), fun s5 e5 => ⟨vp_in_nI (by omega) (by decide), fun s6 e6 => ?_⟩⟩⟩
    have g6 : gF [9] s4 s6 := by
      rw [e6, e5]
      exact (gF.rf.i _ (gmem (k := 9) rfl (by decide))).i _ (gmem (k := 9) rfl (by decide))
    have v6 : sR s4 s6 := by
      rw [e6, e5]
      exact ((sR.rf v).i _ (by omega)).i _ (by omega)
    have hX5 := nmR_q (g.g (k := 9) (by decide)) hX4
    refine h s6 (((g4.mono (by decide)).trans (g.mono (by decide))).trans (g6.mono (by decide))) (g6.st (by decide) (by decide) v6.2 (g.st (by decide) (by decide) v hs3)) ⟨by simp; omega, fun i x hx => ?_⟩ (by rw [wr_q (g6.g (k := 7) (by decide))]; exact w)
    have e19 : s6.1 19 i = if i = X.length then nI n.1.1 else s4.1 19 i := by
      rw [e6, zI1, if_neg (by omega), e5, zI1]
      by_cases q : i = X.length
      · rw [if_pos ⟨rfl, q⟩, if_pos q]
      · rw [if_neg (by omega), if_neg q]
    have e20 : s6.1 20 i = if i = X.length then nI n.1.2 else s4.1 20 i := by
      rw [e6, zI1]
      by_cases q : i = X.length
      · rw [if_pos ⟨rfl, q⟩, if_pos q]
      · rw [if_neg (by omega), if_neg q, e5, zI1, if_neg (by omega)]
    rw [e19, e20]
    by_cases q : i = X.length
    · rw [q, List.getElem?_append_right (Nat.le_refl _), Nat.sub_self] at hx
      cases hx
      rw [if_pos q, if_pos q]
      exact ⟨hst, rfl, rfl⟩
    · have hi : i < X.length := by
        have := (List.getElem?_eq_some_iff.1 hx).1
        rw [List.length_append] at this
        simp at this
        omega
      rw [List.getElem?_append_left hi] at hx
      rw [if_neg q, if_neg q]
      exact hX5.2 i x hx
  have j82 : ∀ s4, gF [7] s3 s4 → sV s4 → (wr s4 ↔ wr s ∨ ¬ u.1 < c kd.1) → PX6_readExport_82 (zQv K) QX (nI a) (nI n.1.2) (nI n.1.1) s4 := by
    intro s4 g v w
    unfold PX6_readExport_82
    have hs4 := g.st (by decide) (by decide) v hs3
    have n74 : s4.1 18 7 = nI X.length := by rw [(g.g (k := 8) (by decide) 18 7 rfl).1]; exact n7
    refine rd_isExported hs4.1 (nmR_q (g.g (by decide)) hX4) n74 hst ?_
    cases q : X.any (nmHas b n.1.1 n.1.2) with
    | false => exact ⟨fun _ => j101 s4 g v (by rw [w, q]; exact ⟨fun z => z.elim Or.inl (fun z => Or.inr (Or.inl z)), fun z => z.elim Or.inl (fun z => z.elim Or.inr (fun z => absurd z (by decide)))⟩), fun z => absurd rfl z⟩
    | true => exact ⟨fun z => absurd z (by decide), fun _ => rd_noteWrong 8 a v rfl (by decide) rfl (by omega) (fun s5 g5 v5 w5 => j101 s5 (g.trans g5) v5 ⟨fun _ => Or.inr (Or.inr q), fun _ => w5⟩)⟩
  refine ⟨fun c => j82 s3 gF.rf hs3.v (by rw [w3]; exact ⟨fun z => Or.inl z, fun z => z.resolve_right (fun z => z c)⟩), fun c => ?_⟩
  exact rd_noteWrong 7 kd.2 hs3.v rfl (by decide) rfl (by omega) (fun s5 g5 v5 w5 => j82 s5 g5 v5 ⟨fun _ => Or.inr c, fun _ => w5⟩)
