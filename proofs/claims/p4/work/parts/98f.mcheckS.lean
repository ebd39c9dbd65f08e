/-! check -/
def qB (T : List Nat) : Nat → Nat := fun j => T.getD j 0
def qRead (T : List Nat) : mE mA := (mRead (qB T) T.length).bind fun A => (mMeans (qB T) T.length A).bind fun _ => .ok A
def qCheck (S : qS) : Int32 × qS := match qRead S.1 with
  | .error q => (nI q.1, ([], S.2.1, nI q.2, S.2.2.2))
  | .ok A => (0, ([], S.2.1, -1, some A))
theorem mRepX_E {s s' : zS} {B : Nat} {A : mA} (h : mRepX s B A) (k : ∀ c i, c = 1 ∨ (14 ≤ c ∧ c ≤ 56) → s'.1 c i = s.1 c i ∧ s'.2 c i = s.2 c i) : mRepX s' B A := by
  have q : ∀ {n : Nat}, ¬ n = 0 ∧ ¬ n = 10 ∧ ¬ n = 12 ∧ ¬ n = 99 → mQ n s s' := fun hn c i e => k c i (zown_x e hn)
  obtain ⟨a1, a2, a3, a4, a5, a6, a7, a9, a10, a11⟩ := h
  refine ⟨r1_q a1 (q (by decide)), r2_q a2 (q (by decide)), r3_q a3 (q (by decide)), r4_q a4 (q (by decide)), r5_q a5 (q (by decide)), r6_q a6 (q (by decide)), r7_q a7 (q (by decide)), r9_q a9 (q (by decide)), ?_, r11_q a11 (q (by decide))⟩
  refine ⟨by rw [(k 1 9 (Or.inl rfl)).1]; exact a10.1, a10.2.1, fun i x hi hx => ?_⟩
  rw [(k 52 i (Or.inr (by omega))).1, (k 53 i (Or.inr (by omega))).1, (k 54 i (Or.inr (by omega))).1]
  exact a10.2.2 i x hi hx
theorem mRep_X {s : zS} {B : Nat} {A : mA} (h : mRep s B A) : mRepX s B A :=
  ⟨h.1, h.2.1, h.2.2.1, h.2.2.2.1, h.2.2.2.2.1, h.2.2.2.2.2.1, h.2.2.2.2.2.2.1, h.2.2.2.2.2.2.2.2.1, h.2.2.2.2.2.2.2.2.2.2.1, h.2.2.2.2.2.2.2.2.2.2.2⟩
theorem sb_nar (x : Nat) : vp_nar .byte (sb_b x) = sb_b x := by
  show (nI x).toInt8.toInt32.toInt8.toInt32 = (nI x).toInt8.toInt32
  rw [Int8.toInt8_toInt32]
abbrev zOrd : Prop := ∀ (id : Nat) (σ : zS) (K : Int32 → zS → Prop) (QX : zS → Prop), id < 256 → K (nI (mOrd id) - (1 : Int32)) σ → zCT zZM zmX10_orderOf [.int (nI id)] σ (zQi K) QX
theorem sp_check {σ : zS} {S : qS} {K KS : Int32 → zS → Prop} {QX : zS → Prop} (hord : zOrd) (hI : zInv σ S) (h : ∀ s, zInv s (qCheck S).2 → K (qCheck S).1 s) (hS : ∀ s, zInv s (qCheck S).2 → KS (qCheck S).1 s) : zCTH zZM zmX10_check [.ref 0] σ (zQi K) (zQi KS) QX := by
  obtain ⟨Bn, Br, hB, b1, b2, ht, hb, h6, hf, h7, ⟨V, hV⟩, hR⟩ := id hI
  have hl := ht.2.1
  refine rX10_check (fun m x2 s => ∃ k, m + k = S.1.length ∧ x2 = nI k ∧ s.1 0 7 = -1 ∧ (∀ c i, ¬ c = 4 → ¬ (c = 0 ∧ i = 7) → s.1 c i = σ.1 c i ∧ s.2 c i = σ.2 c i) ∧ (∀ i, s.1 4 i = if Bn ≤ i ∧ i < Bn + k then sb_b (S.1.getD (i - Bn) 0) else σ.1 4 i)) ?_ ?_
  · rintro m x2 s ⟨k, hm, rfl, s7, so, s4⟩
    have g5 : s.1 0 5 = nI S.1.length := by rw [(so 0 5 (by omega) (by omega)).1]; exact ht.1
    have g10 : s.1 1 0 = nI Bn := by rw [(so 1 0 (by omega) (by omega)).1]; exact b1
    have c1 : nI S.1.length ≤ nI k ↔ S.1.length ≤ k := nI_leI (by omega) (by omega)
    unfold PX10_check_12
    rw [g5, g10, c1]
    refine ⟨fun q s1 e1 s2 e2 => ?_, fun q => ⟨vp_in_nI (by omega) (by decide), by rw [nI_add]; exact vp_in_nI (by omega) (by decide), fun s1 e1 => ?_⟩⟩
    · have hk : k = S.1.length := by omega
      subst hk
      rw [nI_add] at e1
      generalize hn : S.1.length = n at *
      -- the bytes of the module, and what was left behind them
      generalize hbe : (fun j => if j < n then S.1.getD j 0 else V (Bn + j)) = b
      have hbj : ∀ j, b j = if j < n then S.1.getD j 0 else V (Bn + j) := fun j => by rw [← hbe]
      have hBn : Bn ≤ 16000 := by omega
      have hbT : ∀ j, j < n → b j = qB S.1 j := fun j hj => by rw [hbj, if_pos hj]; rfl
      have hbb : ∀ j, j < 16000 → b j < 256 ∧ s2.1 4 (Bn + j) = sb_b (b j) := fun j hj => by
        have hv := hV (Bn + j) (by omega)
        have e4 : s2.1 4 (Bn + j) = s.1 4 (Bn + j) := by rw [e2, zI1, if_neg (by omega), e1, zI1, if_neg (by omega)]
        rw [e4, s4, hbj]
        by_cases q : j < n
        · rw [if_pos q, if_pos (by omega), show Bn + j - Bn = j by omega]
          exact ⟨hb _ (getD_mem (by omega)), rfl⟩
        · rw [if_neg q, if_neg (by omega)]; exact hv
      have h10 : s2.1 1 0 = nI Bn := by rw [e2, zI1, if_neg (by omega), e1, zI1, if_neg (by omega)]; exact g10
      have h11 : s2.1 1 1 = nI (Bn + n) := by rw [e2, zI1, if_neg (by omega), e1, zI1, if_pos ⟨rfl, rfl⟩]
      have o2 : ∀ c i, ¬ c = 4 → ¬ (c = 0 ∧ (i = 7 ∨ i = 5)) → ¬ (c = 1 ∧ i = 1) → s2.1 c i = σ.1 c i ∧ s2.2 c i = σ.2 c i := fun c i h1 h2 h3 => by
        rw [e2, e1]
        exact ⟨by rw [zI1, if_neg (by omega), zI1, if_neg (by omega)]; exact (so c i h1 (by omega)).1, (so c i h1 (by omega)).2⟩
      have h05 : s2.1 0 5 = 0 := by rw [e2, zI1, if_pos ⟨rfl, rfl⟩]
      have h07 : s2.1 0 7 = -1 := by rw [e2, zI1, if_neg (by omega), e1, zI1, if_neg (by omega)]; exact s7
      have hV2 : ∃ V2 : Nat → Nat, ∀ j, j < 32000 → V2 j < 256 ∧ s2.1 4 j = sb_b (V2 j) := by
        refine ⟨fun j => if Bn ≤ j ∧ j < Bn + n then S.1.getD (j - Bn) 0 else V j, fun j hj => ?_⟩
        have e4 : s2.1 4 j = s.1 4 j := by rw [e2, zI1, if_neg (by omega), e1, zI1, if_neg (by omega)]
        show (if Bn ≤ j ∧ j < Bn + n then S.1.getD (j - Bn) 0 else V j) < 256 ∧ s2.1 4 j = sb_b (if Bn ≤ j ∧ j < Bn + n then S.1.getD (j - Bn) 0 else V j)
        rw [e4, s4]
        by_cases q : Bn ≤ j ∧ j < Bn + n
        · rw [if_pos q, if_pos q]; exact ⟨hb _ (getD_mem (by omega)), rfl⟩
        · rw [if_neg q, if_neg q]; exact hV j hj
      -- the latest module without a fault stays where it is
      have hR2 : match S.2.2.2 with
          | none => s2.1 0 2 = 0
          | some A => s2.1 0 2 = 1 ∧ mRgt s2 Br A := by
        have g2 := (o2 0 2 (by omega) (by omega) (by omega)).1
        cases hq : S.2.2.2 with
        | none => rw [hq] at hR; show s2.1 0 2 = 0; rw [g2]; exact hR
        | some A =>
          rw [hq] at hR
          refine ⟨by rw [g2]; exact hR.1, ?_⟩
          obtain ⟨r1, r2, bb, E, r3, r4, r5⟩ := hR.2
          refine ⟨mRepX_E r1 (fun c i hc => ?_), r2, bb, E, r3, fun j hj => ⟨(r4 j hj).1, ?_⟩, r5⟩
          · have hz : zrl c = 2 ∨ (57 ≤ zrl c ∧ zrl c ≤ 99) := by
              rcases hc with rfl | hc
              · exact Or.inl rfl
              · refine Or.inr ?_
                unfold zrl
                rw [if_neg (by omega), if_neg (by omega), if_pos hc]
                omega
            exact o2 (zrl c) i (by omega) (by omega) (by omega)
          · have e4 : s2.1 4 (Br + j) = s.1 4 (Br + j) := by rw [e2, zI1, if_neg (by omega), e1, zI1, if_neg (by omega)]
            rw [e4, s4, if_neg (by omega)]
            exact (r4 j hj).2
      -- what a fault leaves
      have bad : ∀ kd p s9, qRead S.1 = .error (kd, p) → mThr s2 s9 Bn kd p → PX10_check_75 (zQi K) s9 := by
        intro kd p s9 hq ht9
        obtain ⟨t1, t2, t3⟩ := ht9
        unfold PX10_check_75
        intro s10 e10
        have g0 : s9.1 1 0 = nI Bn := by rw [(t3 1 0 (by unfold kpd; omega)).1]; exact h10
        have ep : nI (Bn + p) - nI Bn = nI p := by rw [← nI_add]; rw [Int32.add_comm]; exact Int32.add_sub_cancel _ _
        rw [t2, g0, ep] at e10
        have g10 : s10.1 0 10 = nI kd := by rw [e10, zI1, if_neg (by omega)]; exact t1
        rw [g10]
        have hc : qCheck S = (nI kd, ([], S.2.1, nI p, S.2.2.2)) := by unfold qCheck; rw [hq]
        rw [hc] at h
        have kp : ∀ c i, kpd c i → ¬ (c = 0 ∧ i = 7) → s10.1 c i = s2.1 c i ∧ s10.2 c i = s2.2 c i := fun c i hk h7 => by
          rw [e10]; exact ⟨by rw [zI1, if_neg h7]; exact (t3 c i hk).1, (t3 c i hk).2⟩
        refine h s10 ⟨Bn, Br, hB, ?_, ?_, ⟨?_, Nat.zero_le _, fun j hj => absurd hj (Nat.not_lt_zero _)⟩, fun x hx => absurd hx List.not_mem_nil, ?_, hf, ?_, ?_, ?_⟩
        · rw [(kp 1 0 (by unfold kpd; omega) (by omega)).1]; exact h10
        · rw [(kp 2 0 (by unfold kpd; omega) (by omega)).1, (o2 2 0 (by omega) (by omega) (by omega)).1]; exact b2
        · rw [(kp 0 5 (by unfold kpd; omega) (by omega)).1]; exact h05
        · rw [(kp 0 6 (by unfold kpd; omega) (by omega)).1, (o2 0 6 (by omega) (by omega) (by omega)).1]; exact h6
        · rw [e10, zI1, if_pos ⟨rfl, rfl⟩]
        · obtain ⟨V2, hV2⟩ := hV2
          exact ⟨V2, fun j hj => ⟨(hV2 j hj).1, by rw [(kp 4 j (by unfold kpd; omega) (by omega)).1]; exact (hV2 j hj).2⟩⟩
        · have g2 := (kp 0 2 (by unfold kpd; omega) (by omega)).1
          have rg : rgK s2 s10 := fun c i hc => kp c i (by unfold kpd; omega) (by omega)
          cases hq2 : S.2.2.2 with
          | none => rw [hq2] at hR2; show s10.1 0 2 = 0; rw [g2]; exact hR2
          | some A => rw [hq2] at hR2; exact ⟨by rw [g2]; exact hR2.1, mRgt_K hR2.2 rg⟩
      have hrd : qRead S.1 = (mRead b n).bind fun A => (mMeans b n A).bind fun _ => .ok A := by
        have hr : mRead (qB S.1) n = mRead b n := mRead_l (fun j hj => (hbT j hj).symm)
        unfold qRead
        rw [hn, hr]
        cases hA : mRead b n with
        | error q => rfl
        | ok A =>
          have hfa := mRead_facts (fun j hj => (hbb j (by omega)).1) hA
          show (mMeans (qB S.1) n A).bind _ = (mMeans b n A).bind _
          rw [mMeans_l hbT hfa.1 hfa.2.1]
      refine sp_read h10 h11 hl hBn hbb (fun id σ K hid hk => hord id σ K _ hid hk) ?_
      cases hA : mRead b n with
      | error q =>
        show ∀ s9, mThr s2 s9 Bn q.1 q.2 → PX10_check_75 (zQi K) s9
        intro s9 h9
        exact bad q.1 q.2 s9 (by rw [hrd, hA]; rfl) h9
      | ok A =>
        show ∀ σ', mSt s2 σ' Bn b n n → mRep σ' Bn A → _
        intro s3 hs3 hr3
        have hfa := mRead_facts (fun j hj => (hbb j (by omega)).1) hA
        refine sp_means hs3 hr3 (by rw [(hs3.1 1 1 (by unfold kpd; omega)).1]; exact h11) hfa.1 hfa.2.2 ?_
        unfold nK
        cases hm : mMeans b n A with
        | error q =>
          show ∀ s9, mThr s2 s9 Bn q.1 q.2 → PX10_check_75 (zQi K) s9
          intro s9 h9
          exact bad q.1 q.2 s9 (by rw [hrd, hA]; show (mMeans b n A).bind _ = _; rw [hm]; rfl) h9
        | ok u =>
          show ∀ s' e', mSu s2 s' Bn b e' → mF 99 s3 s' → zQi KS (some (.int 0)) (zsI (zSsw s') 0 2 1)
          intro s5 e5 hs5 hf5
          have hc : qCheck S = (0, ([], S.2.1, -1, some A)) := by
            unfold qCheck
            rw [hrd, hA]
            show (match (mMeans b n A).bind (fun _ => (.ok A : mE mA)) with
              | .error q => _
              | .ok A => _) = _
            rw [hm]; rfl
          rw [hc] at hS
          have hr5 := mRep_mF hr3 hf5
          have kp := hs5.1
          refine hS _ ⟨Br, Bn, by omega, ?_, ?_, ⟨?_, Nat.zero_le _, fun j hj => absurd hj (Nat.not_lt_zero _)⟩, fun x hx => absurd hx List.not_mem_nil, ?_, hf, ?_, ?_, ?_, ?_, hBn, b, n, hl, ?_, hfa.1, hfa.2.2, mMeans_G hm⟩
          · show s5.1 2 0 = nI Br
            rw [(kp 2 0 (by unfold kpd; omega)).1, (o2 2 0 (by omega) (by omega) (by omega)).1]; exact b2
          · show s5.1 1 0 = nI Bn
            rw [(kp 1 0 (by unfold kpd; omega)).1]; exact h10
          · show s5.1 0 5 = nI 0
            rw [(kp 0 5 (by unfold kpd; omega)).1]; exact h05
          · show s5.1 0 6 = nI S.2.1
            rw [(kp 0 6 (by unfold kpd; omega)).1, (o2 0 6 (by omega) (by omega) (by omega)).1]; exact h6
          · show s5.1 0 7 = -1
            rw [(kp 0 7 (by unfold kpd; omega)).1]; exact h07
          · obtain ⟨V2, hV2⟩ := hV2
            refine ⟨V2, fun j hj => ⟨(hV2 j hj).1, ?_⟩⟩
            show s5.1 4 j = sb_b (V2 j)
            rw [(kp 4 j (by unfold kpd; omega)).1]; exact (hV2 j hj).2
          · rfl
          · refine mRepX_E (mRep_X hr5) (fun c i hc => ?_)
            have hc0 : ¬ zrl c = 0 := zrl_0 (by omega)
            refine ⟨?_, ?_⟩
            · show (if zrl c = 0 ∧ i = 2 then (1 : Int32) else s5.1 (zrl (zrl c)) i) = s5.1 c i
              rw [if_neg (fun z => hc0 z.1), zrl_zrl]
            · show s5.2 (zrl (zrl c)) i = s5.2 c i
              rw [zrl_zrl]
          · intro j hj
            refine ⟨(hbb j hj).1, ?_⟩
            show s5.1 4 (Bn + j) = sb_b (b j)
            exact (hs5.2.1 j hj).2
    · have gk : s.1 5 (nI k).toNatClampNeg = sb_b (S.1.getD k 0) := by rw [nI_clamp (by omega), (so 5 k (by omega) (by omega)).1]; exact ht.2.2 k (by omega)
      rw [gk, sb_nar, nI_add, nI_clamp (by omega)] at e1
      refine ⟨m - 1, by show m - 1 < m; omega, k + 1, by omega, nI_1 k, ?_, fun c i h1 h2 => ?_, fun i => ?_⟩
      · rw [e1, zI1, if_neg (by omega)]; exact s7
      · rw [e1]; exact ⟨by rw [zI1, if_neg (by omega)]; exact (so c i h1 h2).1, (so c i h1 h2).2⟩
      · rw [e1, zI1]
        by_cases q2 : i = Bn + k
        · rw [if_pos ⟨rfl, q2⟩, if_pos (by omega), q2, show Bn + k - Bn = k by omega]
        · rw [if_neg (by omega), s4]
          by_cases q3 : Bn ≤ i ∧ i < Bn + k
          · rw [if_pos q3, if_pos (by omega)]
          · rw [if_neg q3, if_neg (by omega)]
  · unfold PX10_check_0
    intro s1 e1
    refine ⟨S.1.length, trivial, 0, rfl, rfl, by rw [e1, zI1, if_pos ⟨rfl, rfl⟩], fun c i h1 h2 => ?_, fun i => ?_⟩
    · rw [e1]; exact ⟨by rw [zI1, if_neg h2], rfl⟩
    · rw [e1, zI1, if_neg (by omega), if_neg (by omega)]
