/-! a body's beginning -/
theorem mGrp_ge {b : Nat → Nat} {e : Nat} : ∀ (n s : Nat) (l : List (Nat × Nat)) (a : Nat) (r : List (Nat × Nat) × Nat), mGrp b e n s l a = .ok r → a ≤ e → a ≤ r.2 := by
  intro n
  induction n with
  | zero => intro s l a r h ha; cases h; exact Nat.le_refl _
  | succ n ih =>
    intro s l a r h ha
    obtain ⟨u, t, hu, ht, _, h2⟩ := mGrpS h
    have u1 := mU_in hu ha
    have t1 := mType_pl ht
    have := ih _ _ _ _ h2 (by omega)
    omega
theorem mBd_eq (b : Nat → Nat) (e : Nat) (hc : Bool) (a : Nat) : mBd b e hc a = (mLen b e a).bind fun z => ((mU b (z.2 + z.1) z.2).bind fun n => mGrp b (z.2 + z.1) n.1 0 [] n.2).bind fun g => (mCode b (z.2 + z.1) hc (z.2 + z.1 + 1 - g.2) [] [] g.2).bind fun c => if c.2 < z.2 + z.1 then .error (1, c.2) else .ok ((z.2, g.2, z.2 + z.1, g.1, c.1), z.2 + z.1) := by
  unfold mBd mLen
  cases mU b e a with
  | error q => rfl
  | ok z =>
    show (if e - z.2 < z.1 then .error (1, a) else _ : mE (mBdT × Nat)) = Except.bind (if e - z.2 < z.1 then .error (1, a) else .ok z : mE (Nat × Nat)) _
    by_cases q : e - z.2 < z.1
    · rw [if_pos q, if_pos q]; rfl
    · rw [if_neg q, if_neg q]
      show _ = Except.bind (Except.bind (mU b (z.2 + z.1) z.2) _) _
      cases mU b (z.2 + z.1) z.2 <;> rfl
/-- the signature of function k, if there is one -/
def bdSg (E : tE) (k : Nat) : Option mSigT := (E.L[k]?).bind fun y => E.S[y]?
def bdG (E : tE) (k : Nat) : mSigT := (bdSg E k).getD ([], 2)
def bdT (g : Nat) : tT := ([], [(0, g, g, 0, false)], true)
def bdE (E : tE) (k : Nat) (x : mBdT) : tE := E.at (bdL (bdG E k) x) (bdG E k).2
def bdH (E : tE) (fl : Bool) (k : Nat) : Bool × tT := (fl && (bdSg E k).isSome, bdT (bdG E k).2)
theorem bdSg_y {s : zS} (E : tE) (k : Nat) (hS : sgR s E.S) : ∃ y, (E.L[k]?).elim (-1) (sgI E.S.length) = y ∧ sgO y E.S (bdG E k) ∧ (0 ≤ y ↔ (bdSg E k).isSome = true) := by
  refine ⟨_, rfl, ?_⟩
  have h64 := hS.1
  unfold bdG bdSg
  cases hL : E.L[k]? with
  | none => exact ⟨Or.inr ⟨rfl, rfl⟩, ⟨fun z => absurd (show (0 : Int32) ≤ -1 from z) (by decide), fun z => by cases z⟩⟩
  | some y =>
    show sgO (sgI E.S.length y) E.S ((E.S[y]?).getD ([], 2)) ∧ (0 ≤ sgI E.S.length y ↔ (E.S[y]?).isSome = true)
    unfold sgI
    by_cases q : y < E.S.length
    · rw [if_pos q, List.getElem?_eq_getElem q]
      exact ⟨Or.inl ⟨y, rfl, List.getElem?_eq_getElem q⟩, ⟨fun _ => rfl, fun _ => (nI_leI (a := 0) (by decide) (by omega)).2 (Nat.zero_le _)⟩⟩
    · rw [if_neg q, List.getElem?_eq_none (by omega)]
      exact ⟨Or.inr ⟨rfl, rfl⟩, ⟨fun z => absurd z (by decide), fun z => by cases z⟩⟩
theorem sgO_ok {s : zS} {y : Int32} {S : List mSigT} {g : mSigT} (hS : sgR s S) (h : sgO y S g) : sigOk g := by
  rcases h with ⟨n, -, hn⟩ | ⟨-, rfl⟩
  · exact (hS.2 n g hn).1
  · exact ⟨by decide, fun x hx => absurd hx List.not_mem_nil, by decide⟩
def bdJ (s : zS) (b : Nat → Nat) (e i : Nat) (C : List Nat) (K : zS → Prop) (m : Nat) (x1 x2 x4 : Int32) (σ : zS) : Prop := ∃ e1 E p0, e1 ≤ e ∧ bdI s b e1 e i C E p0 K m x1 x2 x4 σ
theorem rd_readBody {s : zS} {b : Nat → Nat} {e a i ni k0 : Nat} {C : List Nat} {E : tE} {fl : Bool} {K : zS → Prop} {QX : zS → Prop} (hs : cSt s b e a) (hi : i < 2 ^ 30) (hB : tEB s E) (hni : s.1 2 9 = nI ni) (hni2 : ni < 2 ^ 30) (hC : C.length ≤ a) (hcd : cdR s C) (h4 : s.2 6 4 = lN k0) (hfl : s.1 4 6 = bI fl)
    (h : mW (mBd b e E.nd.isSome a) (fun r => ∀ s', bdP s b r.2 e i C (bdE E (ni + i) r.1) (bdH E fl (ni + i)) r.1.2.2.2.2 s' → K s') (cEv s K)) : zCT zZC zmX1_readBody [.ref 4, .int (nI i)] s (zQv K) QX := by
  have he := hs.2.1
  have ha := hs.2.2.2.2.2.1
  have bad : ∀ k p z, cEr z k p → sQ s z → cEv s K k p → ∀ x1 x2 x4, ∃ n', zlt n' none ∧ bdJ s b e i C K n' x1 x2 x4 z := fun k p z her q hE x1 x2 x4 => ⟨0, trivial, e, E, bdH E fl (ni + i), Nat.le_refl _, Or.inr ⟨k, p, rfl, her, q, hE⟩⟩
  refine rX1_readBody (bdJ s b e i C K) (fun m x1 x2 x4 σ hI => ?_) ?_
  · obtain ⟨e1, E1, p1, hle, hI⟩ := hI
    exact rd_bodyLoop (J := bdJ s b e i C K) (fun n y1 y2 y4 τ z => ⟨e1, E1, p1, hle, z⟩) (by omega) ⟨hle, he⟩ m x1 x2 x4 σ hI
  · unfold PX1_readBody_0
    rw [mBd_eq, mW_bind] at h
    refine rd_enter hs (mW_mono h (fun z hz h s1 k1 hs1 => ?_) (fun k p hq h2 v s1 her q1 => er_X1_readBody_0_0 (K65 := fun y1 y2 y4 τ => ∃ n', zlt n' none ∧ bdJ s b e i C K n' y1 y2 y4 τ) her.v (h2.go q1 her) (fun z kz => bad k p z (her.keep kz) (q1.trans kz.q) h2 _ _ _)))
    have hz2 : a < z.2 ∧ z.2 ≤ e ∧ z.2 + z.1 ≤ e := by
      have hz : (mU b e a).bind (fun z => if e - z.2 < z.1 then .error (1, a) else .ok z) = (.ok z : mE (Nat × Nat)) := hz
      cases hu : mU b e a with
      | error q => rw [hu] at hz; cases hz
      | ok u =>
        rw [hu] at hz
        have u1 := mU_in hu ha
        have hz : (if e - u.2 < u.1 then .error (1, a) else .ok u : mE (Nat × Nat)) = .ok z := hz
        by_cases q : e - u.2 < u.1
        · rw [if_pos q] at hz; cases hz
        · rw [if_neg q] at hz; cases hz; omega
    have g1 := k1.g
    have B1 : tEB s1 E := tEB_g g1 (by decide) hB
    have n29 : s1.1 2 9 = nI ni := by rw [(g1.g (k := 2) (by decide) 2 9 rfl).1]; exact hni
    have e64 : ((s1.1 2 9) + nI i).toInt64 = lN (ni + i) := by rw [n29, nI_add, nI_l (by omega)]
    rw [e64]
    obtain ⟨y, ey, sy, hy0⟩ := bdSg_y E (ni + i) B1.2.1
    refine rd_signatureOf (n := E.S.length) B1.1 (by omega) ?_
    rw [ey]
    have hgo := sgO_ok B1.2.1 sy
    rw [mW_bind] at h
    -- the beginning, from any state u
    have go : ∀ u, gF [0, 11] s u → cSt u b (z.2 + z.1) z.2 → u.1 4 6 = bI (bdH E fl (ni + i)).1 → zCT zZC zmX7_begin [.ref 7, .int y] u (zQv (fun s5 =>
          zCT zZC zmX1_readGroups [.ref 4] s5 (zQv (fun s6 =>
            zCT zZC zmX0_beginBody [.ref 8, .int (nI i), .int (s6.1 7 3)] s6 (zQv (fun s7 =>
              ∃ n', zlt n' none ∧ bdJ s b e i C K n' (nI i) (nI e) (0 : Int32) s7)) QX)) QX)) QX := by
      intro u gu hu hfu
      refine rd_begin hu.v (sgR_q (gu.g (by decide)) hB.2.1) sy (fun s5 g5 v5 d5 w5 f5 t5 l5 => ?_)
      have hs5 := g5.st (by decide) (by decide) v5 hu
      have gs5 : gF [0, 11, 13, 15] s s5 := (gu.mono (by decide)).trans (g5.mono (by decide))
      refine rd_groups hs5 l5 hgo.1 (mW_mono h (fun r hr h s6 g6 hs6 l6 => ?_) (fun k p hq h2 s6 her q6 => er_X1_readBody_0_3 (K65 := fun y1 y2 y4 τ => ∃ n', zlt n' none ∧ bdJ s b e i C K n' y1 y2 y4 τ) her.v (h2.go ((gs5.q (by decide)).trans q6) her) (fun z kz => bad k p z (her.keep kz) (((gs5.q (by decide)).trans q6).trans kz.q) h2 _ _ _)))
      have gs6 : gF [0, 11, 13, 15] s s6 := gs5.trans (g6.mono (by decide))
      have hr2 : z.2 < r.2 := by
        have hr : (mU b (z.2 + z.1) z.2).bind (fun n => mGrp b (z.2 + z.1) n.1 0 [] n.2) = .ok r := hr
        cases hu : mU b (z.2 + z.1) z.2 with
        | error q => rw [hu] at hr; cases hr
        | ok n =>
          rw [hu] at hr
          have n1 := mU_in hu (Nat.le_add_right _ _)
          have := mGrp_ge _ _ _ _ _ hr n1.2
          omega
      have hre := hs6.2.2.2.2.2.1
      refine rd_beginBody hs6.v (by omega) (fun s7 g7 v7 q7 e85 q29 => ?_)
      have gs7 : gF [0, 7, 11, 12, 13, 14, 15] s s7 := (gs6.mono (by decide)).trans (g7.mono (by decide))
      have g57 : gF [0, 12, 15] s5 s7 := (g6.mono (by decide)).trans (g7.mono (by decide))
      have lc7 := lcR_q (g7.g (by decide)) l6
      have n22 : s7.1 22 0 = nI (tyN (bdG E (ni + i)).2) := by rw [(g57.g (k := 13) (by decide) 22 0 rfl).1]; exact f5
      refine ⟨z.2 + z.1 + 10 - r.2, trivial, z.2 + z.1, E.at ((bdG E (ni + i)).1 ++ flat r.1) (bdG E (ni + i)).2, bdH E fl (ni + i), hz2.2.2, Or.inl ⟨some [], [], r.2, z.2 + z.1 + 1 - r.2, by omega, rfl, rfl, rfl, by show C.length + 0 + 2 ≤ r.2; omega, by omega, gs7, g7.st (by decide) (by decide) v7 hs6, ⟨?_, ?_, by decide⟩, ?_, fun j hj => ⟨?_, ?_, ?_⟩, ⟨k0, ?_⟩, ?_, (tEB_g gs7 (by decide) hB).at lc7 n22 hgo.2.2, fun ff => ⟨⟨tS_q (g57.g (by decide)) t5, rfl⟩, rfl, Nat.le_refl _⟩, ?_, ?_⟩⟩
      · rw [(g57.g (k := 13) (by decide) 5 5 rfl).1]; exact d5
      · show s7.1 21 0 = nI 2
        rw [(g57.g (k := 13) (by decide) 21 0 rfl).1]; exact w5
      · have c6 := cdR_q (gs6.g (by decide)) hcd
        rw [show C ++ cds [] = C from List.append_nil _]
        exact ⟨by rw [e85]; exact c6.1, c6.2.1, fun j x hj => by rw [(q7 j).1]; exact c6.2.2 j x hj⟩
      · rw [(q29 j hj).1, (gs6.g (k := 12) (by decide) 8 5 rfl).1, (gs6.g (k := 12) (by decide) 29 j rfl).1, hcd.1]
      · rw [(q7 j).2, (gs6.g (k := 12) (by decide) 30 j rfl).1]
      · rw [(q29 j hj).2, (gs6.g (k := 12) (by decide) 31 j rfl).1, l6.2.1]
        rfl
      · rw [(g7.g (k := 14) (by decide) 6 4 rfl).2, (gs6.g (k := 14) (by decide) 6 4 rfl).2]; exact h4
      · rw [(g57.g (k := 11) (by decide) 4 6 rfl).1, (g5.g (k := 11) (by decide) 4 6 rfl).1]; exact hfu
      · have w7 : wr s7 ↔ wr s := wr_q ((gs6.mono (show ∀ x ∈ [0, 11, 13, 15], x ∈ [0, 11, 12, 13, 15] by decide)).trans (g7.mono (by decide)) |>.g (by decide))
        rw [w7]
        show _ ↔ wr s ∨ ((bdH E fl (ni + i)).1 = true ∧ (bdH E fl (ni + i)).1 = false)
        cases (bdH E fl (ni + i)).1 <;> simp
      · rw [mW_bind] at h
        refine mW_mono h (fun c hc h => ?_) (fun k p hq h2 => h2)
        by_cases q : c.2 < z.2 + z.1
        · rw [if_pos q] at h ⊢; exact h
        · rw [if_neg q] at h ⊢; exact h
    refine ⟨fun q => go s1 (g1.mono (by decide)) hs1 ?_, fun q => ⟨Or.inl rfl, fun s8 e8 => go s8 ?_ ?_ ?_⟩⟩
    · rw [(g1.g (k := 11) (by decide) 4 6 rfl).1, hfl]
      show _ = bI (fl && (bdSg E (ni + i)).isSome)
      rw [hy0.1 q, Bool.and_true]
    · rw [e8]; exact (g1.mono (by decide)).i _ (by decide)
    · have g8 : gF [11] s1 s8 := by rw [e8]; exact gF.rf.i _ (by decide)
      have k8 : sR s1 s8 := by rw [e8]; exact (sR.rf hs1.v).i _ (by omega)
      exact g8.st (by decide) (by decide) k8.2 hs1
    · rw [e8, zI1, if_pos ⟨rfl, rfl⟩]
      show _ = bI (fl && (bdSg E (ni + i)).isSome)
      have : (bdSg E (ni + i)).isSome = false := by
        cases hh : (bdSg E (ni + i)).isSome with
        | false => rfl
        | true => exact absurd (hy0.2 hh) q
      rw [this, Bool.and_false]; rfl
