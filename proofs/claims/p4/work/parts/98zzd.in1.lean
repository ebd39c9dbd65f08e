/-! THE CLASS's instructions: number, arguments, labels -/
def rnN (i : Nat) : Nat := ([0, 5, 11, 17, 26, 27, 32, 36, 40, 41, 44, 55, 58, 66, 69, 90, 103, 138, 167, 167, 172, 173, 192, 196] : List Nat).getD i 0
theorem rn_f : ∀ i, i < 24 → zt_INSTRUCTION_RUNS_f i = nI (rnN i) ∧ rnN i < 200 := by decide +kernel
theorem rn_in : ∀ j, j < 12 → ∀ x, x < 256 → (j = 0 ∨ rnN (2 * j - 1) < x) → x ≤ rnN (2 * j + 1) → decide (rnN (2 * j) ≤ x) = isOp x := by decide +kernel
theorem rn_out : ∀ x, x < 256 → rnN 23 < x → isOp x = false := by decide +kernel
theorem rv_isOne {x : Nat} {s : zS} {K : Int32 → zS → Prop} {QX : zS → Prop} (hx : x < 256) (h : K (bI (isOp x)) s) : zCT zZC zmX5_isOfOneByte [.int (nI x)] s (zQi K) QX := by
  refine rX5_isOfOneByte (fun m x0 x1 σ => ∃ j, m + j = 12 ∧ x0 = nI x ∧ x1 = nI (2 * j) ∧ σ = s ∧ (j = 0 ∨ rnN (2 * j - 1) < x)) ?_ ?_
  · rintro m x0 x1 σ ⟨j, hm, rfl, rfl, rfl, hj⟩
    unfold PX5_isOfOneByte_2
    have e1 : nI (2 * j) + (1 : Int32) = nI (2 * j + 1) := nI_1 _
    have e2 : nI (2 * j) + (2 : Int32) = nI (2 * (j + 1)) := by rw [show (2 : Int32) = nI 2 from rfl, nI_add]; rfl
    have c1 : nI zt_INSTRUCTION_RUNS_n ≤ nI (2 * j + 1) ↔ 12 ≤ j := by rw [show zt_INSTRUCTION_RUNS_n = 24 from rfl, nI_leI (by decide) (by omega)]; omega
    rw [e1, e2, c1]
    refine ⟨fun q => ⟨Or.inl rfl, ?_⟩, fun q => ⟨vp_in_nI (by show 2 * j + 1 < 24; omega) (by decide), ?_⟩⟩
    · have ej : j = 12 := by omega
      subst ej
      rw [rn_out x hx (hj.resolve_left (by decide))] at h
      exact h
    · obtain ⟨f1, g1⟩ := rn_f (2 * j + 1) (by omega)
      obtain ⟨f0, g0⟩ := rn_f (2 * j) (by omega)
      rw [nI_clamp (by omega), nI_clamp (by omega), f1, f0, nI_ltI (by omega) (by omega), nI_ltI (by omega) (by omega)]
      refine ⟨fun c => ⟨m - 1, by show m - 1 < m; omega, j + 1, by omega, rfl, rfl, rfl, Or.inr (by rw [show 2 * (j + 1) - 1 = 2 * j + 1 by omega]; exact c)⟩, fun c => ⟨vp_in_nI (by show 2 * j < 24; omega) (by decide), fun c2 => ⟨Or.inl rfl, ?_⟩, fun c2 => ⟨Or.inr rfl, ?_⟩⟩⟩
      · rw [← rn_in j (by omega) x hx hj (by omega), decide_eq_false (by omega)] at h; exact h
      · rw [← rn_in j (by omega) x hx hj (by omega), decide_eq_true (by omega)] at h; exact h
  · unfold PX5_isOfOneByte_0
    exact ⟨12, trivial, 0, rfl, rfl, rfl, rfl, Or.inl rfl⟩
/-- an instruction's number -/
def mNum (b : Nat → Nat) (e a : Nat) : mE (Nat × Nat) := (mOct b e a).bind fun k => if k.1 = 252 then (mU b e k.2).bind fun n => if n.1 < 8 ∨ 14 < n.1 then .error (1, k.2) else .ok (256 + n.1, n.2)
  else if isOp k.1 = true then .ok k else .error (1, a)
theorem m14 {c i : Nat} (hc : c = 6 ∨ c = 26) : cown c i = 14 := by
  rcases hc with rfl | rfl <;> rfl
theorem rd_readNumber {s : zS} {b : Nat → Nat} {e a : Nat} {K : zS → Prop} {QX : zS → Prop} (hs : cSt s b e a)
    (h : mW (mNum b e a) (fun r => ∀ s', gF [0, 14] s s' → cSt s' b e r.2 → s'.1 6 2 = nI a → s'.1 6 3 = nI r.1 → s'.2 6 4 = s.2 6 4 → K s') (cEv s K)) : zCT zZC zmX5_readNumber [.ref 6, .ref 1] s (zQv K) QX := by
  have ha := hs.lt
  refine rX5_readNumber ?_
  unfold PX5_readNumber_0
  intro s1 e1
  rw [hs.2.2.2.1] at e1
  have M : ∀ {c i : Nat}, c = 6 ∨ c = 26 → cown c i ∈ [14] := fun hc => by rw [m14 hc]; exact List.mem_singleton.2 rfl
  have g1 : gF [14] s s1 := by rw [e1]; exact gF.rf.i _ (M (Or.inl rfl))
  have k1 : sR s s1 := by rw [e1]; exact (sR.rf hs.v).i _ (by omega)
  have hs1 := g1.st (by decide) (by decide) k1.2 hs
  have n62 : s1.1 6 2 = nI a := by rw [e1, zI1, if_pos ⟨rfl, rfl⟩]
  unfold mNum at h
  rw [mW_bind] at h
  have q1 := g1.q (by decide)
  refine rd_octet hs1 (mW_mono h (fun r hr h s2 k2 hs2 => ?_) (fun k p hq h2 v s2 her q2 => er_X5_readNumber_0_0 her.v (h2.go (q1.trans q2) her)))
  obtain ⟨hlt, rfl⟩ := mOct_in hr
  have hba := (hs.1 a (by have := hs.2.1; omega)).1
  have h : mW (if b a = 252 then (mU b e (a + 1)).bind fun n => if n.1 < 8 ∨ 14 < n.1 then .error (1, a + 1) else .ok (256 + n.1, n.2) else if isOp (b a) = true then .ok (b a, a + 1) else .error (1, a) : mE (Nat × Nat)) (fun r => ∀ s', gF [0, 14] s s' → cSt s' b e r.2 → s'.1 6 2 = nI a → s'.1 6 3 = nI r.1 → s'.2 6 4 = s.2 6 4 → K s') (cEv s K) := h
  intro s4 e4
  have g4 : gF [14] s2 s4 := by rw [e4]; exact gF.rf.i _ (M (Or.inl rfl))
  have k4 : sR s2 s4 := by rw [e4]; exact (sR.rf hs2.v).i _ (by omega)
  have hs4 := g4.st (by decide) (by decide) k4.2 hs2
  have n63 : s4.1 6 3 = nI (b a) := by rw [e4, zI1, if_pos ⟨rfl, rfl⟩]
  have n624 : s4.1 6 2 = nI a := by rw [e4, zI1, if_neg (by omega), (k2.g.g (k := 14) (by decide) 6 2 rfl).1]; exact n62
  have n644 : s4.2 6 4 = s.2 6 4 := by rw [e4]; show s2.2 6 4 = _; rw [(k2.g.g (k := 14) (by decide) 6 4 rfl).2, e1]; rfl
  have g14 : gF [0, 14] s s4 := ((g1.mono (by decide)).trans (k2.g.mono (by decide))).trans (g4.mono (by decide))
  have c252 : s4.1 6 3 = (252 : Int32) ↔ b a = 252 := by rw [n63]; exact nI_eq (b := 252) (by omega) (by decide)
  refine ⟨fun q => ?_, fun q => ?_⟩
  · rw [if_pos (c252.1 q), mW_bind] at h
    refine rd_number hs4 (mW_mono h (fun n hn h s5 k5 hs5 => ?_) (fun k p hq h2 v s5 her q5 => er_X5_readNumber_0_1 her.v (h2.go ((g14.q (by decide)).trans q5) her)))
    have h35 := mU_lt hn
    have c8 : lN n.1 < (8 : Int64) ↔ n.1 < 8 := lN_ltB (b := 8) (by omega) (by decide)
    have c14 : lN n.1 ≤ (14 : Int64) ↔ n.1 ≤ 14 := lN_leB (b := 14) (by omega) (by decide)
    have q5 := ((g14.q (by decide)).trans k5.q)
    rw [c8, c14]
    refine ⟨fun c => ?_, fun c => ⟨fun c2 s9 e9 => ?_, fun c2 => ?_⟩⟩
    · rw [if_pos (Or.inl c)] at h
      exact rd_fail 1 (a + 1) hs5 (by decide) hs4.2.2.2.1 (fun s7 her q7 => er_X5_readNumber_0_2 her.v (cEv.go (k := 1) (p := a + 1) h (q5.trans q7) her))
    · rw [if_neg (by omega)] at h
      have e10 : (256 : Int32) + (lN n.1).toInt32 = nI (256 + n.1) := by rw [lN_i, show (256 : Int32) = nI 256 from rfl, nI_add]
      rw [e10] at e9
      have g9 : gF [14] s5 s9 := by rw [e9]; exact gF.rf.i _ (M (Or.inl rfl))
      have k9 : sR s5 s9 := by rw [e9]; exact (sR.rf hs5.v).i _ (by omega)
      refine h s9 ((g14.trans (k5.g.mono (by decide))).trans (g9.mono (by decide))) (g9.st (by decide) (by decide) k9.2 hs5) ?_ (by rw [e9, zI1, if_pos ⟨rfl, rfl⟩]) (by rw [e9]; show s5.2 6 4 = _; rw [(k5.g.g (k := 14) (by decide) 6 4 rfl).2]; exact n644)
      rw [e9, zI1, if_neg (by omega), (k5.g.g (k := 14) (by decide) 6 2 rfl).1]; exact n624
    · rw [if_pos (Or.inr (by omega))] at h
      exact rd_fail 1 (a + 1) hs5 (by decide) hs4.2.2.2.1 (fun s7 her q7 => er_X5_readNumber_0_3 her.v (cEv.go (k := 1) (p := a + 1) h (q5.trans q7) her))
  · rw [if_neg (fun z => q (c252.2 z))] at h
    rw [n63]
    refine rv_isOne hba ?_
    cases qo : isOp (b a) with
    | false =>
      rw [qo, if_neg (by decide)] at h
      exact ⟨fun _ => rd_fail 1 a hs4 (by decide) n624 (fun s7 her q7 => er_X5_readNumber_0_5 her.v (cEv.go (k := 1) (p := a) h ((g14.q (by decide)).trans q7) her)), fun z => absurd rfl z⟩
    | true =>
      rw [qo, if_pos rfl] at h
      exact ⟨fun z => absurd z (by decide), fun _ => h s4 g14 hs4 n624 n63 n644⟩
