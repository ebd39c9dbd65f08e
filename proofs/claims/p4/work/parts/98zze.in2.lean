def rk6 (σ s : zS) : Prop := s.1 6 2 = σ.1 6 2 ∧ s.1 6 3 = σ.1 6 3
def rk7 (σ s : zS) : Prop := rk6 σ s ∧ s.2 6 4 = σ.2 6 4
def lbI (s : zS) (b : Nat → Nat) (e : Nat) (K : zS → Prop) (m : Nat) (x3 x4 : Int32) (σ : zS) : Prop :=
  (∃ n l a', m + l.length = 1000 ∧ x3 = nI n ∧ x4 = nI l.length ∧ l.length ≤ n + 1 ∧ n ≤ 256 ∧ gF [0, 14] s σ ∧ cSt σ b e a' ∧ lbR σ l ∧ rk7 s σ ∧ mW (mRow (mU b e) none (n + 1 - l.length) l a') (fun r => ∀ s', gF [0, 14] s s' → cSt s' b e r.2 → lbR s' r.1 → rk7 s s' → K s') (cEv s K)) ∨ (∃ kk p, m = 0 ∧ cEr σ kk p ∧ sQ s σ ∧ cEv s K kk p)
theorem rd_readLabels {s : zS} {b : Nat → Nat} {e a : Nat} {K : zS → Prop} {QX : zS → Prop} (hs : cSt s b e a)
    (h : mW ((mU b e a).bind fun n => if 256 < n.1 then .error (4, a) else mRow (mU b e) none (n.1 + 1) [] n.2) (fun r => ∀ s', gF [0, 14] s s' → cSt s' b e r.2 → lbR s' r.1 → rk7 s s' → K s') (cEv s K)) : zCT zZC zmX5_readLabels [.ref 6, .ref 1] s (zQv K) QX := by
  have ha := hs.lt
  have M : ∀ {c i : Nat}, c = 6 ∨ c = 26 → cown c i ∈ [14] := fun hc => by rw [m14 hc]; exact List.mem_singleton.2 rfl
  refine rX5_readLabels (lbI s b e K) ?_ ?_
  · rintro m x3 x4 σ (⟨n, l, a', hm, rfl, rfl, hl, hn, g, hs', hL, hk, hw⟩ | ⟨kk, p, rfl, her, q, hE⟩)
    · unfold PX5_readLabels_31
      have c1 : nI n < nI l.length ↔ n < l.length := nI_ltI (by omega) (by omega)
      have c2 : nI 257 ≤ nI l.length ↔ 257 ≤ l.length := nI_leI (by decide) (by omega)
      rw [c1, c2, hs'.2.2.1]
      refine ⟨fun q => ?_, fun q => ⟨fun _ => ⟨fun z => absurd z (by omega), fun _ => ?_⟩, fun z => absurd rfl z⟩⟩
      · rw [show n + 1 - l.length = 0 by omega, mRow_0] at hw
        exact hw σ g hs' hL hk
      · rw [show n + 1 - l.length = (n - l.length) + 1 by omega, mRow_s, if_neg (by intro z; cases z), mW_bind] at hw
        refine rd_number hs' (mW_mono hw (fun r hr hw s1 k1 hs1 => ?_) (fun kk p hq h2 v s1 her q1 => ?_))
        · refine ⟨vp_in_nI (by omega) (by decide), fun s3 e3 s4 e4 => ?_⟩
          rw [nI_clamp (by omega)] at e3
          have n61 : s3.1 6 1 = nI l.length := by rw [e3]; show s1.1 6 1 = _; rw [(k1.g.g (k := 14) (by decide) 6 1 rfl).1]; exact hL.1
          rw [n61, nI_1] at e4
          have g4 : gF [14] s1 s4 := by rw [e4, e3]; exact (gF.rf.l _ (M (Or.inr rfl))).i _ (M (Or.inl rfl))
          have k4 : sR s1 s4 := by rw [e4, e3]; exact ((sR.rf hs1.v).l _ (by omega)).i _ (by omega)
          refine ⟨m - 1, by show m - 1 < m; omega, Or.inl ⟨n, l ++ [r.1], r.2, by simp; omega, rfl, by rw [nI_1]; simp, by simp; omega, hn, (g.trans (k1.g.mono (by decide))).trans (g4.mono (by decide)), g4.st (by decide) (by decide) k4.2 hs1, ⟨?_, by simp; omega, fun i x hx => ?_⟩, ⟨⟨?_, ?_⟩, ?_⟩, ?_⟩⟩
          · rw [e4, zI1, if_pos ⟨rfl, rfl⟩]; simp
          · have e26 : ∀ i, s4.2 26 i = if i = l.length then lN r.1 else σ.2 26 i := fun i => by
              rw [e4]
              show s3.2 26 i = _
              rw [e3]
              show (if 26 = 26 ∧ i = l.length then lN r.1 else s1.2 26 i) = _
              by_cases q2 : i = l.length
              · rw [if_pos ⟨rfl, q2⟩, if_pos q2]
              · rw [if_neg (fun z => q2 z.2), if_neg q2, (k1.g.g (k := 14) (by decide) 26 i rfl).2]
            rw [e26]
            by_cases q2 : i = l.length
            · rw [q2, List.getElem?_append_right (Nat.le_refl _), Nat.sub_self] at hx
              cases hx
              rw [if_pos q2]
              exact ⟨mU_lt hr, rfl⟩
            · have hi : i < l.length := by
                have := (List.getElem?_eq_some_iff.1 hx).1
                rw [List.length_append] at this
                simp at this
                omega
              rw [List.getElem?_append_left hi] at hx
              rw [if_neg q2]
              exact hL.2.2 i x hx
          · rw [e4, zI1, if_neg (by omega), e3]; show s1.1 6 2 = _; rw [(k1.g.g (k := 14) (by decide) 6 2 rfl).1]; exact hk.1.1
          · rw [e4, zI1, if_neg (by omega), e3]; show s1.1 6 3 = _; rw [(k1.g.g (k := 14) (by decide) 6 3 rfl).1]; exact hk.1.2
          · rw [e4]; show s3.2 6 4 = _; rw [e3]; show s1.2 6 4 = _; rw [(k1.g.g (k := 14) (by decide) 6 4 rfl).2]; exact hk.2
          · rw [show n + 1 - (l ++ [r.1]).length = n - l.length by rw [List.length_append]; show n + 1 - (l.length + 1) = _; omega]
            exact hw
        · refine ⟨vp_in_nI (by omega) (by decide), fun s3 e3 s4 e4 => ?_⟩
          have k4 : sR s1 s4 := by rw [e4, e3]; exact ((sR.rf her.v).l _ (by omega)).i _ (by omega)
          exact ⟨0, by show 0 < m; omega, Or.inr ⟨kk, p, rfl, her.keep k4, ((g.q (by decide)).trans q1).trans k4.q, h2⟩⟩
    · unfold PX5_readLabels_31
      exact ⟨fun _ => hE _ her q, fun _ => ⟨fun z => absurd z her.bad, fun _ => hE _ her q⟩⟩
  · unfold PX5_readLabels_0
    rw [mW_bind] at h
    refine rd_rowLength hs (mW_mono h (fun r hr h s1 k1 hs1 => ?_) (fun k p hq h2 v s1 her q1 => ?_))
    · have c1 : nI (min r.1 16000) ≤ (256 : Int32) ↔ r.1 ≤ 256 := by
        rw [show (256 : Int32) = nI 256 from rfl, nI_leI (by omega) (by decide)]; omega
      rw [c1]
      refine ⟨fun c s3 e3 => ?_, fun c => ?_⟩
      · rw [if_neg (by omega)] at h
        have g3 : gF [14] s1 s3 := by rw [e3]; exact gF.rf.i _ (M (Or.inl rfl))
        have k3 : sR s1 s3 := by rw [e3]; exact (sR.rf hs1.v).i _ (by omega)
        refine ⟨1000, trivial, Or.inl ⟨r.1, [], r.2, rfl, by rw [Nat.min_eq_left (by omega)], rfl, Nat.zero_le _, c, (k1.g.mono (by decide)).trans (g3.mono (by decide)), g3.st (by decide) (by decide) k3.2 hs1, ⟨by rw [e3, zI1, if_pos ⟨rfl, rfl⟩]; rfl, by decide, fun i x hx => by simp at hx⟩, ⟨⟨?_, ?_⟩, ?_⟩, h⟩⟩
        · rw [e3, zI1, if_neg (by omega), (k1.g.g (k := 14) (by decide) 6 2 rfl).1]
        · rw [e3, zI1, if_neg (by omega), (k1.g.g (k := 14) (by decide) 6 3 rfl).1]
        · rw [e3]; show s1.2 6 4 = _; rw [(k1.g.g (k := 14) (by decide) 6 4 rfl).2]
      · rw [if_pos (by omega)] at h
        refine rd_fail 4 a hs1 (by decide) hs.2.2.2.1 (fun s4 her q4 s5 e5 => ?_)
        have k5 : sR s4 s5 := by rw [e5]; exact (sR.rf her.v).i _ (by omega)
        exact ⟨0, trivial, Or.inr ⟨4, a, rfl, her.keep k5, ((k1.q).trans q4).trans k5.q, h⟩⟩
    · have nx : ∀ z, sR s1 z → ∀ s3 : zS, s3 = zsI z 6 1 (0 : Int32) → ∀ x3 x4 : Int32, ∃ n', zlt n' none ∧ lbI s b e K n' x3 x4 s3 := fun z kz s3 e3 _ _ => by
        have k3 : sR z s3 := by rw [e3]; exact (sR.rf kz.2).i _ (by omega)
        exact ⟨0, trivial, Or.inr ⟨k, p, rfl, (her.keep kz).keep k3, (q1.trans kz.q).trans k3.q, h2⟩⟩
      exact ⟨fun _ s3 e3 => nx s1 (sR.rf her.v) s3 e3 _ _, fun _ => sf_X4_fail her.v (fun s4 k4 s5 e5 => nx s4 k4 s5 e5 _ _)⟩
/-- an instruction's argument, its labels not among it -/
def mArg (b : Nat → Nat) (e x a : Nat) : mE (Nat × Nat) :=
  if x = 2 ∨ x = 3 ∨ x = 4 then mBt b e a
  else if x = 12 ∨ x = 13 ∨ x = 16 ∨ (32 ≤ x ∧ x ≤ 36) ∨ x = 265 ∨ x = 269 then mU b e a
  else if x = 17 ∨ x = 264 ∨ x = 268 then (mU b e a).bind fun u => (mNeed b e 0 u.2).bind fun p => .ok (u.1, p)
  else if x = 63 ∨ x = 64 ∨ x = 267 then (mNeed b e 0 a).bind fun p => .ok (0, p)
  else if x = 65 then (mSg b e 5 7 120 a).bind fun p => .ok (0, p)
  else if x = 66 then (mSg b e 10 0 127 a).bind fun p => .ok (0, p)
  else if x = 266 ∨ x = 270 then (mNeed b e 0 a).bind fun p => (mNeed b e 0 p).bind fun q => .ok (0, q)
  else if 40 ≤ x ∧ x ≤ 62 then (mU b e a).bind fun u => (mU b e u.2).bind fun o => .ok (u.1, o.2)
  else .ok (0, a)
/-- the instructions whose argument is told of -/
def hasArg (x : Nat) : Bool := decide (x = 12 ∨ x = 13 ∨ x = 16 ∨ x = 17 ∨ (32 ≤ x ∧ x ≤ 36) ∨ (40 ≤ x ∧ x ≤ 62) ∨ x = 264 ∨ x = 265 ∨ x = 268 ∨ x = 269)
theorem zin2 {x : Int32} {a b : Int32} : zin x [a, b] ↔ x = a ∨ x = b := Iff.rfl
theorem zin3 {x : Int32} {a b c : Int32} : zin x [a, b, c] ↔ x = a ∨ x = b ∨ x = c := Iff.rfl
def argOk (s' : zS) (x v : Nat) : Prop := ∃ k, s'.2 6 4 = lN k ∧ (hasArg x = true → k < 2 ^ 35) ∧ (x = 2 ∨ x = 3 ∨ x = 4 → k = tyN v) ∧ (hasArg x = true → k = v)
theorem rd_readArguments {s : zS} {b : Nat → Nat} {e a x k0 : Nat} {K : zS → Prop} {QX : zS → Prop} (hs : cSt s b e a) (h3 : s.1 6 3 = nI x) (hx : x < 300) (h4 : s.2 6 4 = lN k0)
    (h : mW (mArg b e x a) (fun r => ∀ s', gF [0, 14] s s' → cSt s' b e r.2 → rk6 s s' → argOk s' x r.1 → K s') (cEv s K)) : zCT zZC zmX5_readArguments [.ref 6, .ref 1] s (zQv K) QX := by
  have ha := hs.lt
  have M : ∀ {c i : Nat}, c = 6 ∨ c = 26 → cown c i ∈ [14] := fun hc => by rw [m14 hc]; exact List.mem_singleton.2 rfl
  have c : ∀ j, j < 400 → (nI x = nI j ↔ x = j) := fun j hj => nI_eq (by omega) (by omega)
  refine rX5_readArguments ?_
  unfold PX5_readArguments_0
  rw [h3]
  have z1 : zin (nI x) [2, 3, 4] ↔ (x = 2 ∨ x = 3 ∨ x = 4) := by
    show (nI x = nI 2 ∨ nI x = nI 3 ∨ nI x = nI 4) ↔ _
    rw [c 2 (by decide), c 3 (by decide), c 4 (by decide)]
  have z2 : zin (nI x) [12, 13, 16, 32, 33, 34, 35, 36, 265, 269] ↔ (x = 12 ∨ x = 13 ∨ x = 16 ∨ (32 ≤ x ∧ x ≤ 36) ∨ x = 265 ∨ x = 269) := by
    show (nI x = nI 12 ∨ nI x = nI 13 ∨ nI x = nI 16 ∨ nI x = nI 32 ∨ nI x = nI 33 ∨ nI x = nI 34 ∨ nI x = nI 35 ∨ nI x = nI 36 ∨ nI x = nI 265 ∨ nI x = nI 269) ↔ _
    rw [c 12 (by decide), c 13 (by decide), c 16 (by decide), c 32 (by decide), c 33 (by decide), c 34 (by decide), c 35 (by decide), c 36 (by decide), c 265 (by decide), c 269 (by decide)]
    omega
  have z3 : zin (nI x) [17, 264, 268] ↔ (x = 17 ∨ x = 264 ∨ x = 268) := by
    show (nI x = nI 17 ∨ nI x = nI 264 ∨ nI x = nI 268) ↔ _
    rw [c 17 (by decide), c 264 (by decide), c 268 (by decide)]
  have z4 : zin (nI x) [63, 64, 267] ↔ (x = 63 ∨ x = 64 ∨ x = 267) := by
    show (nI x = nI 63 ∨ nI x = nI 64 ∨ nI x = nI 267) ↔ _
    rw [c 63 (by decide), c 64 (by decide), c 267 (by decide)]
  have z5 : nI x = (65 : Int32) ↔ x = 65 := c 65 (by decide)
  have z6 : nI x = (66 : Int32) ↔ x = 66 := c 66 (by decide)
  have z7 : zin (nI x) [266, 270] ↔ (x = 266 ∨ x = 270) := by
    show (nI x = nI 266 ∨ nI x = nI 270) ↔ _
    rw [c 266 (by decide), c 270 (by decide)]
  have z8 : nI x < (40 : Int32) ↔ x < 40 := nI_ltI (b := 40) (by omega) (by decide)
  have z9 : (62 : Int32) < nI x ↔ 62 < x := nI_ltI (a := 62) (by decide) (by omega)
  rw [z1, z2, z3, z4, z5, z6, z7, z8, z9]
  unfold mArg at h
  -- the argument stays, or is set
  have keep : ∀ s1, fK s s1 → rk6 s s1 ∧ s1.2 6 4 = lN k0 := fun s1 k => ⟨⟨(k.g.g (k := 14) (by decide) 6 2 rfl).1, (k.g.g (k := 14) (by decide) 6 3 rfl).1⟩, by rw [(k.g.g (k := 14) (by decide) 6 4 rfl).2]; exact h4⟩
  have setA : ∀ (s1 s2 : zS) (p k : Nat) (w : Int64), fK s s1 → cSt s1 b e p → w = lN k → s2 = zsL s1 6 4 w → gF [0, 14] s s2 ∧ cSt s2 b e p ∧ rk6 s s2 ∧ s2.2 6 4 = lN k ∧ gF [14] s1 s2 := by
    intro s1 s2 p k w k1 hs1 hw e2
    have g2 : gF [14] s1 s2 := by rw [e2]; exact gF.rf.l _ (M (Or.inl rfl))
    have k2 : sR s1 s2 := by rw [e2]; exact (sR.rf hs1.v).l _ (by omega)
    refine ⟨(k1.g.mono (by decide)).trans (g2.mono (by decide)), g2.st (by decide) (by decide) k2.2 hs1, ⟨?_, ?_⟩, ?_, g2⟩
    · rw [e2]; show s1.1 6 2 = _; rw [(k1.g.g (k := 14) (by decide) 6 2 rfl).1]
    · rw [e2]; show s1.1 6 3 = _; rw [(k1.g.g (k := 14) (by decide) 6 3 rfl).1]
    · rw [e2]
      show (if 6 = 6 ∧ 4 = 4 then w else s1.2 6 4) = _
      rw [if_pos ⟨rfl, rfl⟩, hw]
  have noA : ∀ {v : Nat}, ¬ (x = 2 ∨ x = 3 ∨ x = 4) → hasArg x = false → ∀ s1 : zS, s1.2 6 4 = lN k0 → argOk s1 x v := fun hb hh s1 hz => ⟨k0, hz, fun z => by rw [hh] at z; exact absurd z (by decide), fun z => absurd z hb, fun z => by rw [hh] at z; exact absurd z (by decide)⟩
  have hA : ∀ P : Prop, (x = 12 ∨ x = 13 ∨ x = 16 ∨ x = 17 ∨ (32 ≤ x ∧ x ≤ 36) ∨ (40 ≤ x ∧ x ≤ 62) ∨ x = 264 ∨ x = 265 ∨ x = 268 ∨ x = 269 ↔ P) → (¬ P → hasArg x = false) := fun P hP hn => by unfold hasArg; exact decide_eq_false (fun z => hn (hP.1 z))
  have hA := hA _ Iff.rfl
  refine ⟨fun q => ?_, fun q1 => ⟨fun q => ?_, fun q2 => ⟨fun q => ?_, fun q3 => ⟨fun q => ?_, fun q4 => ⟨fun q => ?_, fun q5 => ⟨fun q => ?_, fun q6 => ⟨fun q => ?_, fun q7 => ⟨fun q => ?_, fun q8 => ⟨fun q => ?_, fun q9 => ?_⟩⟩⟩⟩⟩⟩⟩⟩⟩
  · rw [if_pos q] at h
    refine rd_blockType hs (mW_mono h (fun r hr h s1 k1 hs1 hr2 => ?_) (fun k p hq h2 v s1 her q1 => er_X5_readArguments_0_0 her.v (h2.go q1 her)))
    intro s3 e3
    have ht : tyN r.1 < 200 := by unfold tyN; split <;> (try split) <;> omega
    obtain ⟨y1, y2, y3, y4, -⟩ := setA s1 s3 r.2 (tyN r.1) _ k1 hs1 (nI_l (by omega)) e3
    exact h s3 y1 y2 y3 ⟨tyN r.1, y4, fun _ => by omega, fun _ => rfl, fun z => by unfold hasArg at z; have := of_decide_eq_true z; omega⟩
  · rw [if_neg q1, if_pos q] at h
    refine rd_number hs (mW_mono h (fun r hr h s1 k1 hs1 => ?_) (fun k p hq h2 v s1 her q1 => er_X5_readArguments_0_1 her.v (h2.go q1 her)))
    intro s3 e3
    obtain ⟨y1, y2, y3, y4, -⟩ := setA s1 s3 r.2 r.1 _ k1 hs1 rfl e3
    exact h s3 y1 y2 y3 ⟨r.1, y4, fun _ => mU_lt hr, fun z => absurd z q1, fun _ => rfl⟩
  · rw [if_neg q1, if_neg q2, if_pos q, mW_bind] at h
    refine rd_number hs (mW_mono h (fun r hr h s1 k1 hs1 => ?_) (fun k p hq h2 v s1 her q1 => er_X5_readArguments_0_2 her.v (h2.go q1 her)))
    intro s3 e3
    obtain ⟨y1, y2, y3, y4, y5⟩ := setA s1 s3 r.2 r.1 _ k1 hs1 rfl e3
    rw [mW_bind] at h
    refine rd_need 0 y2 rfl rfl (by decide) (mW_mono h (fun p hp h s4 k4 hs4 => ?_) (fun k p hq h2 v s4 her q4 => er_X5_readArguments_0_3 her.v (h2.go ((y1.q (by decide)).trans q4) her)))
    refine h s4 (y1.trans (k4.g.mono (by decide))) hs4 ⟨?_, ?_⟩ ⟨r.1, by rw [(k4.g.g (k := 14) (by decide) 6 4 rfl).2]; exact y4, fun _ => mU_lt hr, fun z => absurd z q1, fun _ => rfl⟩
    · rw [(k4.g.g (k := 14) (by decide) 6 2 rfl).1]; exact y3.1
    · rw [(k4.g.g (k := 14) (by decide) 6 3 rfl).1]; exact y3.2
  · rw [if_neg q1, if_neg q2, if_neg q3, if_pos q, mW_bind] at h
    refine rd_need 0 hs rfl rfl (by decide) (mW_mono h (fun p hp h s4 k4 hs4 => ?_) (fun k p hq h2 v s4 her q4 => er_X5_readArguments_0_4 her.v (h2.go q4 her)))
    have kk := keep s4 k4
    exact h s4 (k4.g.mono (by decide)) hs4 kk.1 (noA q1 (hA (by omega)) s4 kk.2)
  · rw [if_neg q1, if_neg q2, if_neg q3, if_neg q4, if_pos q, mW_bind] at h
    refine rd_skipSigned 5 7 120 hs rfl rfl (by decide) (by decide) rfl (mW_mono h (fun p hp h s4 k4 hs4 => ?_) (fun k p hq h2 s4 her q4 => er_X5_readArguments_0_5 her.v (h2.go q4 her)))
    have kk := keep s4 k4
    exact h s4 (k4.g.mono (by decide)) hs4 kk.1 (noA q1 (hA (by omega)) s4 kk.2)
  · rw [if_neg q1, if_neg q2, if_neg q3, if_neg q4, if_neg q5, if_pos q, mW_bind] at h
    refine rd_skipSigned 10 0 127 hs rfl rfl (by decide) (by decide) rfl (mW_mono h (fun p hp h s4 k4 hs4 => ?_) (fun k p hq h2 s4 her q4 => er_X5_readArguments_0_6 her.v (h2.go q4 her)))
    have kk := keep s4 k4
    exact h s4 (k4.g.mono (by decide)) hs4 kk.1 (noA q1 (hA (by omega)) s4 kk.2)
  · rw [if_neg q1, if_neg q2, if_neg q3, if_neg q4, if_neg q5, if_neg q6, if_pos q, mW_bind] at h
    refine rd_need 0 hs rfl rfl (by decide) (mW_mono h (fun p hp h s4 k4 hs4 => ?_) (fun k p hq h2 v s4 her q4 => er_X5_readArguments_0_7 her.v (h2.go q4 her)))
    rw [mW_bind] at h
    refine rd_need 0 hs4 rfl rfl (by decide) (mW_mono h (fun p hp h s5 k5 hs5 => ?_) (fun k p hq h2 v s5 her q5 => er_X5_readArguments_0_8 her.v (h2.go (k4.q.trans q5) her)))
    have kk := keep s5 (k4.trans k5)
    exact h s5 ((k4.trans k5).g.mono (by decide)) hs5 kk.1 (noA q1 (hA (by omega)) s5 kk.2)
  · rw [if_neg q1, if_neg q2, if_neg q3, if_neg q4, if_neg q5, if_neg q6, if_neg q7, if_neg (by omega)] at h
    have kk := keep s fK.rf
    exact h s gF.rf hs kk.1 (noA q1 (hA (by omega)) s kk.2)
  · rw [if_neg q1, if_neg q2, if_neg q3, if_neg q4, if_neg q5, if_neg q6, if_neg q7, if_neg (by omega)] at h
    have kk := keep s fK.rf
    exact h s gF.rf hs kk.1 (noA q1 (hA (by omega)) s kk.2)
  · rw [if_neg q1, if_neg q2, if_neg q3, if_neg q4, if_neg q5, if_neg q6, if_neg q7, if_pos (by omega), mW_bind] at h
    refine rd_number hs (mW_mono h (fun r hr h s1 k1 hs1 => ?_) (fun k p hq h2 v s1 her q1 => er_X5_readArguments_0_9 her.v (h2.go q1 her)))
    intro s3 e3
    obtain ⟨y1, y2, y3, y4, y5⟩ := setA s1 s3 r.2 r.1 _ k1 hs1 rfl e3
    rw [mW_bind] at h
    refine rd_number y2 (mW_mono h (fun o ho h s4 k4 hs4 => ?_) (fun k p hq h2 v s4 her q4 => er_X5_readArguments_0_10 her.v (h2.go ((y1.q (by decide)).trans q4) her)))
    refine h s4 (y1.trans (k4.g.mono (by decide))) hs4 ⟨?_, ?_⟩ ⟨r.1, by rw [(k4.g.g (k := 14) (by decide) 6 4 rfl).2]; exact y4, fun _ => mU_lt hr, fun z => absurd z q1, fun _ => rfl⟩
    · rw [(k4.g.g (k := 14) (by decide) 6 2 rfl).1]; exact y3.1
    · rw [(k4.g.g (k := 14) (by decide) 6 3 rfl).1]; exact y3.2
