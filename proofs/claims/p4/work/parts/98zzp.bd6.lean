/-! one instruction, whole -/
theorem own13 {c i : Nat} (hc : c = 5 ∨ (21 ≤ c ∧ c ≤ 25)) : cown c i = 13 := by
  have q : c = 5 ∨ c = 21 ∨ c = 22 ∨ c = 23 ∨ c = 24 ∨ c = 25 := by omega
  rcases q with rfl | rfl | rfl | rfl | rfl | rfl <;> rfl
theorem tS_q {u v : zS} {t : tT} (h : gQ 13 u v) (r : tS u t) : tS v t := by
  have q : ∀ c i, c = 5 ∨ (21 ≤ c ∧ c ≤ 25) → v.1 c i = u.1 c i := fun c i hc => (h c i (own13 hc)).1
  have ts : ∀ l : List Nat, tsC u l → tsC v l := by
    intro l
    induction l with
    | nil => intro _; trivial
    | cons x r ih => intro z; exact ⟨by rw [q 25 _ (by omega)]; exact z.1, z.2.1, ih z.2.2⟩
  have fs : ∀ (l : List tF) (n : Nat), fsC u n l → fsC v n l := by
    intro l
    induction l with
    | nil => intro n _; trivial
    | cons f r ih =>
      intro n z
      obtain ⟨z1, z2, z3, z4, z5, z6, z7, z8, z9⟩ := z
      exact ⟨by rw [q 21 _ (by omega)]; exact z1, by rw [q 22 _ (by omega)]; exact z2, by rw [q 23 _ (by omega)]; exact z3, by rw [q 24 _ (by omega)]; exact z4, z5, z6, z7, z8, ih _ z9⟩
  obtain ⟨a1, a2, a3, a4, a5, a6, a7⟩ := r
  exact ⟨by rw [q 5 6 (by omega)]; exact a1, a2, a3, a4, by rw [q 5 5 (by omega)]; exact a5, ts _ a6, fs _ _ a7⟩
theorem cdR_q {σ s : zS} {C : List Nat} (h : gQ 12 σ s) (r : cdR σ C) : cdR s C := ⟨by rw [(h 8 5 rfl).1]; exact r.1, r.2.1, fun i x e => by rw [(h 32 i rfl).1]; exact r.2.2 i x e⟩
theorem isOp_lt {x : Nat} (h : isOp x = true) : x < 300 := by
  unfold isOp isAcc isNum at h
  simp only [Bool.or_eq_true, Bool.and_eq_true, decide_eq_true_eq] at h
  omega
theorem mNum_op {b : Nat → Nat} {e a : Nat} {r : Nat × Nat} (h : mNum b e a = .ok r) : isOp r.1 = true ∧ r.1 < 300 := by
  unfold mNum at h
  cases hk : mOct b e a with
  | error q => rw [hk] at h; cases h
  | ok k =>
    rw [hk] at h
    have h : (if k.1 = 252 then (mU b e k.2).bind fun n => if n.1 < 8 ∨ 14 < n.1 then .error (1, k.2) else .ok (256 + n.1, n.2) else if isOp k.1 = true then .ok k else .error (1, a) : mE (Nat × Nat)) = .ok r := h
    by_cases q : k.1 = 252
    · rw [if_pos q] at h
      cases hu : mU b e k.2 with
      | error q => rw [hu] at h; cases h
      | ok n =>
        rw [hu] at h
        have h : (if n.1 < 8 ∨ 14 < n.1 then .error (1, k.2) else .ok (256 + n.1, n.2) : mE (Nat × Nat)) = .ok r := h
        by_cases q2 : n.1 < 8 ∨ 14 < n.1
        · rw [if_pos q2] at h; cases h
        · rw [if_neg q2] at h
          cases h
          refine ⟨?_, by show 256 + n.1 < 300; omega⟩
          have hv : n.1 = 8 ∨ n.1 = 9 ∨ n.1 = 10 ∨ n.1 = 11 ∨ n.1 = 12 ∨ n.1 = 13 ∨ n.1 = 14 := by omega
          rcases hv with z | z | z | z | z | z | z <;> rw [z] <;> rfl
    · rw [if_neg q] at h
      by_cases q2 : isOp k.1 = true
      · rw [if_pos q2] at h
        cases h
        exact ⟨q2, isOp_lt q2⟩
      · rw [if_neg q2] at h; cases h
/-- behind the arguments: the code, the typing, the turn of frames -/
theorem rd_insTail {s : zS} {b : Nat → Nat} {e a x v p : Nat} {ow C l : List Nat} {E : tE} {f : Bool} {t : tT} {K : zS → Prop} {QX : zS → Prop} (hs : cSt s b e p) (h2 : s.1 6 2 = nI a) (ha : a < 2 ^ 31) (h3 : s.1 6 3 = nI x) (hx : x < 300) (hop : isOp x = true) (hd : s.1 5 5 = nI ow.length) (ho : owC s ow) (h60 : ow.length ≤ 60) (hc : cdR s C) (hl : C.length < 16000) (hk : argOk s x v) (hv2 : x = 2 ∨ x = 3 ∨ x = 4 → v ≤ 2) (hlb : x = 14 → lbR s l) (hl1 : 2 ≤ x ∧ x ≤ 4 → ow.length < 60) (hl2 : x = 5 → ow.head? = some 4) (hf : s.1 4 6 = bI f) (hT : f = true → tER s E ∧ tS s t ∧ t.2.2 = true ∧ t.2.1.length = ow.length + 1 ∧ t.1.length + 1 < 16000)
    (h : ∀ s', gF [7, 11, 12, 13] s s' → cSt s' b e p → s'.1 22 0 = s.1 22 0 → owAft s' (mNx x ow) → cdR s' (C ++ [x]) → (∀ i, s'.1 29 i = s.1 29 i ∧ s'.1 30 i = s.1 30 i ∧ s'.1 31 i = s.1 31 i) → s'.1 4 6 = bI (f && (cStep E x v l t).2.2) → (f = true → (cStep E x v l t).2.2 = true → tyAft s' (mNx x ow) (tTurn x v (cStep E x v l t))) → (wr s' ↔ wr s ∨ (f = true ∧ (cStep E x v l t).2.2 = false)) → K s') : zCT zZC zmX0_addCode [.ref 8, .int (s.1 6 3)] s (zQv (fun s4 =>
              (((s4.1 4 6) = 0 →
                zCT zZC zmX1_turnFrames [.ref 4] s4 (zQv (fun s5 =>
                  zQv K none s5)) QX) ∧ (¬ (s4.1 4 6) = 0 →
                zCT zZC zmX7_isRight [.ref 7, .ref 6] s4 (zQi (fun r7 s6 =>
                  ((r7 = 0 →
                    zCT zZC zmX2_noteWrong [.ref 2, .int (15 : Int32), .int (s6.1 6 2)] s6 (zQv (fun s8 =>
                      ((0 : Int32) = 0 ∨ (0 : Int32) = 1) ∧ ∀ s9 : zS, s9 = zsI s8 4 6 (0 : Int32) →
                      zCT zZC zmX1_turnFrames [.ref 4] s9 (zQv (fun s10 =>
                        zQv K none s10)) QX)) QX) ∧ (¬ r7 = 0 →
                    zCT zZC zmX1_turnFrames [.ref 4] s6 (zQv (fun s11 =>
                      zQv K none s11)) QX)))) QX)))) QX := by
  obtain ⟨k, k4, hk35, kty, karg⟩ := hk
  rw [h3]
  refine rd_addCode hs.v hc hl hx (fun s4 g4 v4 c4 q4 => ?_)
  have st4 := g4.st (by decide) (by decide) v4 hs
  have m3 : s4.1 6 3 = nI x := by rw [(g4.g (k := 14) (by decide) 6 3 rfl).1]; exact h3
  have m2 : s4.1 6 2 = nI a := by rw [(g4.g (k := 14) (by decide) 6 2 rfl).1]; exact h2
  have m4 : s4.2 6 4 = lN k := by rw [(g4.g (k := 14) (by decide) 6 4 rfl).2]; exact k4
  have mf : s4.1 4 6 = bI f := by rw [(g4.g (k := 11) (by decide) 4 6 rfl).1]; exact hf
  have m5 : s4.1 5 5 = nI ow.length := by rw [(g4.g (k := 13) (by decide) 5 5 rfl).1]; exact hd
  have mo : owC s4 ow := owC_q (fun i => (g4.g (k := 13) (by decide) 21 i rfl).1) ho
  have m22 : s4.1 22 0 = s.1 22 0 := (g4.g (k := 13) (by decide) 22 0 rfl).1
  have w4 : wr s4 ↔ wr s := wr_q (g4.g (k := 7) (by decide))
  have ht4 : 2 ≤ x ∧ x ≤ 4 → s4.2 6 4 = lN (tyN v) ∧ v ≤ 2 := fun z => ⟨by rw [m4, kty (by omega)], hv2 (by omega)⟩
  -- the turn, from any state behind
  have turn : ∀ (u : zS) (fe : Bool), gF [7, 11, 13] s4 u → sV u → u.1 5 5 = s4.1 5 5 → (∀ i, u.1 21 i = s4.1 21 i) → u.1 22 0 = s4.1 22 0 → u.1 4 6 = bI fe → fe = (f && (cStep E x v l t).2.2) → (f = true → (cStep E x v l t).2.2 = true → tS u (cStep E x v l t) ∧ (cStep E x v l t).2.1.length = ow.length + 1 ∧ (cStep E x v l t).1.length < 16000) → (wr u ↔ wr s ∨ (f = true ∧ (cStep E x v l t).2.2 = false)) → zCT zZC zmX1_turnFrames [.ref 4] u (zQv (fun s5 => zQv K none s5)) QX := by
    intro u fe gu vu e55 e21 e22 e46 efe hty hw
    have n4 : 2 ≤ x ∧ x ≤ 4 → u.2 6 4 = lN (tyN v) ∧ v ≤ 2 := fun z => ⟨by rw [(gu.g (k := 14) (by decide) 6 4 rfl).2]; exact (ht4 z).1, (ht4 z).2⟩
    refine rd_turn vu (by rw [(gu.g (k := 14) (by decide) 6 3 rfl).1]; exact m3) hx n4 (e55.trans m5) (owC_q e21 mo) h60 hl1 hl2 (fun s5 g5 v5 z5 o5 t5 => ?_)
    have g45 : gF [7, 11, 13] s4 s5 := gu.trans (g5.mono (by decide))
    refine h s5 ((g4.mono (by decide)).trans (g45.mono (by decide))) (g45.st (by decide) (by decide) v5 st4) (z5.trans (e22.trans m22)) o5 (cdR_q (g45.g (by decide)) c4) (fun i => ?_) ?_ (fun ff hc => ?_) ?_
    · exact ⟨((g45.g (k := 12) (by decide) 29 i rfl).1).trans (q4 i).1, ((g45.g (k := 12) (by decide) 30 i rfl).1).trans (q4 i).2.1, ((g45.g (k := 12) (by decide) 31 i rfl).1).trans (q4 i).2.2⟩
    · rw [(g5.g (k := 11) (by decide) 4 6 rfl).1, e46, efe]
    · obtain ⟨y1, y2, y3⟩ := hty ff hc
      exact t5 _ y1 y2 y3
    · rw [wr_q (g5.g (k := 7) (by decide))]; exact hw
  refine ⟨fun z => ?_, fun z => ?_⟩
  · have ff : f = false := by rw [mf] at z; exact (bI_0 f).1 z
    refine turn s4 false gF.rf v4 rfl (fun _ => rfl) rfl (by rw [mf, ff]) (by rw [ff]; rfl) (fun z => by rw [ff] at z; cases z) ?_
    rw [w4, ff]
    exact ⟨Or.inl, fun z => z.elim id (fun z => by cases z.1)⟩
  · have ff : f = true := by
      cases hff : f with
      | true => rfl
      | false => exact absurd (by rw [mf, hff]; rfl) z
    obtain ⟨tE', tS', tup, tlen, thigh⟩ := hT ff
    have e1 : cStep E x k l t = cStep E x v l t := by
      by_cases q : hasArg x = true
      · rw [karg q]
      · exact cStep_k hop hx (by simpa using q)
    have rl := rel_c E x v l t
    refine fo_right v4 (tS_q (g4.g (by decide)) tS') tup (tER_g g4 (by decide) m22 tE') hop hx m3 (fun z => hk35 (by unfold hasArg; exact decide_eq_true z)) m4 (fun z => lbR_q (g4.g (by decide)) (hlb z)) (by omega) (fun s6 g6 e55 e21 v6 => ?_)
    rw [e1]
    by_cases qc : (cStep E x v l t).2.2 = true
    · refine ⟨fun _ tg => ?_, fun z => by rw [qc] at z; cases z⟩
      refine ⟨fun z => absurd z (by decide), fun _ => turn s6 true (g6.mono (by decide)) v6 e55 (fun i => (e21 i).1) (e21 0).2.1 ?_ (by rw [ff, qc]; rfl) (fun _ _ => ⟨tg.2.2.2, by rw [rl.2]; exact tlen, by have := rl.1; omega⟩) ?_⟩
      · rw [(g6.g (k := 11) (by decide) 4 6 rfl).1, mf, ff]
      · rw [wr_q (g6.g (k := 7) (by decide)), w4, qc]
        exact ⟨Or.inl, fun z => z.elim id (fun z => by cases z.2)⟩
    · have qf : (cStep E x v l t).2.2 = false := by simpa using qc
      refine ⟨fun z => absurd z qc, fun _ => ?_⟩
      refine ⟨fun _ => ?_, fun z => absurd rfl z⟩
      refine rd_noteWrong 15 a v6 rfl (by decide) (by rw [(g6.g (k := 14) (by decide) 6 2 rfl).1]; exact m2) ha (fun s8 g8 v8 w8 => ⟨Or.inl rfl, fun s9 e9 => ?_⟩)
      have g9 : gF [7, 11] s6 s9 := by rw [e9]; exact (g8.mono (by decide)).i _ (by decide)
      have k9 : sR s8 s9 := by rw [e9]; exact (sR.rf v8).i _ (by omega)
      have g49 : gF [7, 11, 13] s4 s9 := (g6.mono (by decide)).trans (g9.mono (by decide))
      refine turn s9 false g49 k9.2 ?_ (fun i => ?_) ?_ (by rw [e9, zI1, if_pos ⟨rfl, rfl⟩]; rfl) (by rw [ff, qf]; rfl) (fun _ z => absurd z qc) ⟨fun _ => Or.inr ⟨ff, qf⟩, fun _ => ?_⟩
      · rw [(g9.g (k := 13) (by decide) 5 5 rfl).1]; exact e55
      · rw [(g9.g (k := 13) (by decide) 21 i rfl).1]; exact (e21 i).1
      · rw [(g9.g (k := 13) (by decide) 22 0 rfl).1]; exact (e21 0).2.1
      · rw [wr_q (show gQ 7 s8 s9 from fun c i hc => by
          rw [e9]
          refine ⟨?_, rfl⟩
          rw [zI1, if_neg (fun z => by rw [z.1, z.2] at hc; cases hc)])]
        exact w8
