theorem mRow_0 {α : Type} {it : Nat → mE (α × Nat)} {lim : Option Nat} {l : List α} {a : Nat} : mRow it lim 0 l a = .ok (l, a) := rfl
theorem mRow_s {α : Type} {it : Nat → mE (α × Nat)} {lim : Option Nat} {n : Nat} {l : List α} {a : Nat} : mRow it lim (n + 1) l a = if lim = some l.length then .error (4, a) else (it a).bind fun r => mRow it lim n (l ++ [r.1]) r.2 := rfl
theorem mType_le {b : Nat → Nat} {e a : Nat} {r : Nat × Nat} (h : mType b e a = .ok r) : r.1 ≤ 1 := by
  unfold mType at h
  cases hu : mOct b e a with
  | error q => rw [hu] at h; cases h
  | ok u =>
    rw [hu] at h
    have h : (if u.1 = 127 ∨ u.1 = 126 then (.ok (127 - u.1, u.2) : mE (Nat × Nat)) else .error (1, a)) = .ok r := h
    by_cases q : u.1 = 127 ∨ u.1 = 126
    · rw [if_pos q] at h; cases h; show 127 - u.1 ≤ 1; omega
    · rw [if_neg q] at h; cases h
theorem tyN1 {t : Nat} (h : t ≤ 1) : tyN t = 127 - t := by unfold tyN; rw [if_neg (by omega), if_neg (by omega)]
/-- the signature that is being read -/
def sgP (s : zS) (i : Nat) (ps : List Nat) (r : Nat) : Prop := s.1 11 i = nI ps.length ∧ (∀ j, j < ps.length → s.1 12 (i * 16 + j) = nI (tyN (ps.getD j 0))) ∧ s.1 13 i = nI (tyN r)
theorem sgP_q {σ s : zS} {i : Nat} {ps : List Nat} {r : Nat} (h : gQ 1 σ s) (q : sgP σ i ps r) : sgP s i ps r := ⟨by rw [(h 11 i rfl).1]; exact q.1, fun j hj => by rw [(h 12 _ rfl).1]; exact q.2.1 j hj, by rw [(h 13 i rfl).1]; exact q.2.2⟩
theorem rd_addParameter {s : zS} {S : List mSigT} {ps : List Nat} {r t : Nat} {K : zS → Prop} {QX : zS → Prop} (hv : sV s) (h1 : s.1 18 1 = nI S.length) (hS : sgR s S) (hl : S.length < 64) (hp : sgP s S.length ps r) (h16 : ps.length < 16) (h : ∀ s', gF [1] s s' → sV s' → sgR s' S → sgP s' S.length (ps ++ [t]) r → K s') : zCT zZC zmX2_addParameter [.ref 2, .int (nI ps.length), .int (nI (tyN t))] s (zQv K) QX := by
  refine rX2_addParameter ?_
  unfold PX2_addParameter_0
  have e1 : s.1 18 (1 : Int32).toNatClampNeg = nI S.length := h1
  have e2 : nI S.length * (16 : Int32) + nI ps.length = nI (S.length * 16 + ps.length) := by
    rw [show (16 : Int32) = nI 16 from rfl, pk_mul, nI_add]
  rw [e1, e2, nI_clamp (by omega), nI_clamp (by omega), nI_1]
  refine ⟨by unfold vp_in; decide, fun z => absurd ((nI_leI (by decide) (by omega)).1 z) (by omega), fun _ => ⟨fun z => absurd ((nI_leI (a := 16) (by decide) (by omega)).1 z) (by omega), fun _ => ⟨fun z => absurd ((nI_leI (by decide) (by omega)).1 z) (by omega), fun _ => ⟨vp_in_nI (by omega) (by decide), fun s1 q1 => ⟨vp_in_nI (by omega) (by decide), fun s2 q2 => ?_⟩⟩⟩⟩⟩
  have k2 : sR s s2 := by rw [q2, q1]; exact ((sR.rf hv).i _ (by omega)).i _ (by omega)
  have g2 : gF [1] s s2 := by rw [q2, q1]; exact (gF.rf.i _ (gmem (k := 1) rfl (by decide))).i _ (gmem (k := 1) rfl (by decide))
  have e11 : ∀ i, s2.1 11 i = if i = S.length then nI (ps.length + 1) else s.1 11 i := fun i => by
    rw [q2, zI1]
    by_cases q : i = S.length
    · rw [if_pos ⟨rfl, q⟩, if_pos q]
    · rw [if_neg (by omega), if_neg q, q1, zI1, if_neg (by omega)]
  have e12 : ∀ i, s2.1 12 i = if i = S.length * 16 + ps.length then nI (tyN t) else s.1 12 i := fun i => by
    rw [q2, zI1, if_neg (by omega), q1, zI1]
    by_cases q : i = S.length * 16 + ps.length
    · rw [if_pos ⟨rfl, q⟩, if_pos q]
    · rw [if_neg (by omega), if_neg q]
  have e13 : ∀ i, s2.1 13 i = s.1 13 i := fun i => by rw [q2, zI1, if_neg (by omega), q1, zI1, if_neg (by omega)]
  refine h s2 g2 k2.2 ⟨hS.1, fun i g hg => ?_⟩ ⟨?_, fun j hj => ?_, ?_⟩
  · have hi := (List.getElem?_eq_some_iff.1 hg).1
    obtain ⟨z1, z2, z3, z4⟩ := hS.2 i g hg
    have z16 := z1.1
    exact ⟨z1, by rw [e11, if_neg (by omega)]; exact z2, fun j hj => by rw [e12, if_neg (by omega)]; exact z3 j hj, by rw [e13]; exact z4⟩
  · rw [e11, if_pos rfl, List.length_append]; rfl
  · rw [List.length_append] at hj
    simp only [List.length_cons, List.length_nil] at hj
    rw [e12]
    by_cases q : j = ps.length
    · rw [if_pos (by omega), q]
      simp
    · rw [if_neg (by omega), hp.2.1 j (by omega)]
      simp [List.getD_eq_getElem?_getD, List.getElem?_append_left (show j < ps.length by omega)]
  · rw [e13]; exact hp.2.2
theorem rd_signature {s : zS} {b : Nat → Nat} {e a : Nat} {S : List mSigT} {K : zS → Prop} {QX : zS → Prop} (hs : cSt s b e a) (h1 : s.1 18 1 = nI S.length) (hS : sgR s S) (hl : S.length < 64)
    (h : mW (mSig b e a) (fun r => ∀ s', gF [0, 1] s s' → cSt s' b e r.2 → sgR s' (S ++ [r.1]) → K s') (cEv s K)) : zCT zZC zmX6_readSignature [.ref 3] s (zQv K) QX := by
  -- the second row, at its item j
  refine rX6_readSignature (fun m x1 x2 x3 σ => x1 = nI S.length ∧ ((∃ n ps a', m = 5000 - ps.length ∧ x2 = nI (min n 16000) ∧ x3 = nI ps.length ∧ ps.length ≤ 16 ∧ ps.length ≤ n ∧ (∀ x ∈ ps, x ≤ 1) ∧ gF [0, 1] s σ ∧ cSt σ b e a' ∧ sgR σ S ∧ sgP σ S.length ps 2 ∧
      mW (mRow (mType b e) (some 16) (n - ps.length) ps a') (fun ps => mW ((mU b e ps.2).bind fun m => (mRow (mType b e) (some 1) m.1 [] m.2).bind fun rs => .ok ((ps.1, rs.1.getD 0 2), rs.2) : mE (mSigT × Nat)) (fun r => ∀ s', gF [0, 1] s s' → cSt s' b e r.2 → sgR s' (S ++ [r.1]) → K s') (cEv s K)) (cEv s K)) ∨ (∃ kk p, m = 4000 ∧ cEr σ kk p ∧ sQ s σ ∧ cEv s K kk p)))
    (fun m x1 x3 x4 σ => x1 = nI S.length ∧ ((∃ n ps rs a', m = 1000 - rs.length ∧ x3 = nI (min n 16000) ∧ x4 = nI rs.length ∧ rs.length ≤ 1 ∧ rs.length ≤ n ∧ (∀ x ∈ rs, x ≤ 1) ∧ ps.length ≤ 16 ∧ (∀ x ∈ ps, x ≤ 1) ∧ gF [0, 1] s σ ∧ cSt σ b e a' ∧ sgR σ S ∧ sgP σ S.length ps (rs.getD 0 2) ∧
      mW (mRow (mType b e) (some 1) (n - rs.length) rs a') (fun rs => ∀ s', gF [0, 1] s s' → cSt s' b e rs.2 → sgR s' (S ++ [(ps, rs.1.getD 0 2)]) → K s') (cEv s K)) ∨ (∃ kk p, m = 100 ∧ cEr σ kk p ∧ sQ s σ ∧ cEv s K kk p))) ?_ ?_ ?_
  · rintro m x1 x2 x3 σ ⟨rfl, (⟨n, ps, a', rfl, rfl, rfl, hp, hpn, hp1, g, hs', hS', hP, hw⟩ | ⟨kk, p, rfl, her, q, hE⟩)⟩
    · unfold PX6_readSignature_76
      have hlt := hs'.lt
      have c1 : nI (min n 16000) ≤ nI ps.length ↔ n ≤ ps.length := by rw [nI_leI (by omega) (by omega)]; omega
      rw [c1, hs'.2.2.1]
      refine ⟨fun c => ?_, fun c => ⟨fun _ => ?_, fun z => absurd rfl z⟩⟩
      · rw [show n - ps.length = 0 by omega, mRow_0] at hw
        have hw : mW ((mU b e a').bind fun m => (mRow (mType b e) (some 1) m.1 [] m.2).bind fun rs => .ok ((ps, rs.1.getD 0 2), rs.2) : mE (mSigT × Nat)) (fun r => ∀ s', gF [0, 1] s s' → cSt s' b e r.2 → sgR s' (S ++ [r.1]) → K s') (cEv s K) := hw
        rw [mW_bind] at hw
        refine rd_rowLength hs' (mW_mono hw (fun r hr hw s1 k1 hs1 => ?_) (fun k p hq h2 v s1 her q1 => ?_))
        · rw [mW_bind] at hw
          refine ⟨1000, by show 1000 < 5000 - ps.length; omega, rfl, Or.inl ⟨r.1, ps, [], r.2, rfl, rfl, rfl, by decide, Nat.zero_le _, fun x hx => absurd hx List.not_mem_nil, hp, hp1, g.trans (k1.g.mono (by decide)), hs1, sgR_q (k1.g.g (k := 1) (by decide)) hS', sgP_q (k1.g.g (k := 1) (by decide)) hP, hw⟩⟩
        · exact ⟨100, by show 100 < 5000 - ps.length; omega, rfl, Or.inr ⟨k, p, rfl, her, (g.q (by decide)).trans q1, h2⟩⟩
      · rw [show n - ps.length = (n - (ps.length + 1)) + 1 by omega, mRow_s] at hw
        have er : ∀ kk p, ∀ z, cEr z kk p → sQ s z → cEv s K kk p → ∀ (x2 x3 : Int32), ∃ n', zlt n' (some (5000 - ps.length)) ∧ nI S.length = nI S.length ∧ ((∃ n ps a', n' = 5000 - ps.length ∧ x2 = nI (min n 16000) ∧ x3 = nI ps.length ∧ ps.length ≤ 16 ∧ ps.length ≤ n ∧ (∀ x ∈ ps, x ≤ 1) ∧ gF [0, 1] s z ∧ cSt z b e a' ∧ sgR z S ∧ sgP z S.length ps 2 ∧
            mW (mRow (mType b e) (some 16) (n - ps.length) ps a') (fun ps => mW ((mU b e ps.2).bind fun m => (mRow (mType b e) (some 1) m.1 [] m.2).bind fun rs => .ok ((ps.1, rs.1.getD 0 2), rs.2) : mE (mSigT × Nat)) (fun r => ∀ s', gF [0, 1] s s' → cSt s' b e r.2 → sgR s' (S ++ [r.1]) → K s') (cEv s K)) (cEv s K)) ∨ (∃ kk p, n' = 4000 ∧ cEr z kk p ∧ sQ s z ∧ cEv s K kk p)) :=
          fun kk p z h1 h2 h3 _ _ => ⟨4000, by show 4000 < 5000 - ps.length; omega, rfl, Or.inr ⟨kk, p, rfl, h1, h2, h3⟩⟩
        by_cases q : ps.length = 16
        · rw [if_pos (by rw [q])] at hw
          have hw : cEv s K 4 a' := hw
          refine rd_refuseBeyond ps.length 16 hs' rfl rfl (by omega) (by decide) ?_
          rw [if_pos (by omega)]
          intro s1 her q1
          refine sf_X4_type her.v (fun r3 s2 k2 => sf_X2_addParameter k2.2 (by rw [nI_toInt (by omega)]; omega) (fun s3 k3 => ?_))
          exact er 4 a' s3 ((her.keep k2).keep k3) ((((g.q (by decide)).trans q1).trans k2.q).trans k3.q) hw _ _
        · rw [if_neg (fun z => q (Option.some.inj z).symm), mW_bind] at hw
          refine rd_refuseBeyond ps.length 16 hs' rfl rfl (by omega) (by decide) ?_
          rw [if_neg (by omega)]
          refine rd_type hs' (mW_mono hw (fun r hr hw s1 k1 hs1 ht => ?_) (fun kk p hq h2 v s1 her q1 => ?_))
          · rw [← tyN1 ht]
            have n1 : s1.1 18 1 = nI S.length := by rw [((g.trans (k1.g.mono (by decide))).g (k := 8) (by decide) 18 1 rfl).1]; exact h1
            refine rd_addParameter hs1.v n1 (sgR_q (k1.g.g (k := 1) (by decide)) hS') hl (sgP_q (k1.g.g (k := 1) (by decide)) hP) (by omega) (fun s2 g2 v2 S2 P2 => ?_)
            refine ⟨5000 - (ps.length + 1), by show 5000 - (ps.length + 1) < 5000 - ps.length; omega, rfl, Or.inl ⟨n, ps ++ [r.1], r.2, by simp, rfl, by rw [nI_1]; simp, by simp; omega, by simp; omega, fun x hx => ?_, (g.trans (k1.g.mono (by decide))).trans (g2.mono (by decide)), g2.st (by decide) (by decide) v2 hs1, S2, P2, ?_⟩⟩
            · rcases List.mem_append.1 hx with z | z
              · exact hp1 x z
              · rw [List.mem_singleton.1 z]; exact ht
            · rw [show (ps ++ [r.1]).length = ps.length + 1 by simp]
              exact hw
          · refine sf_X2_addParameter her.v (by rw [nI_toInt (by omega)]; omega) (fun s3 k3 => ?_)
            exact er kk p s3 (her.keep k3) (((g.q (by decide)).trans q1).trans k3.q) h2 _ _
    · unfold PX6_readSignature_76
      have nx : ∀ z, sR σ z → ∀ x3 : Int32, ∃ n', zlt n' (some 4000) ∧ nI S.length = nI S.length ∧ ((∃ n ps rs a', n' = 1000 - rs.length ∧ x3 = nI (min n 16000) ∧ (0 : Int32) = nI rs.length ∧ rs.length ≤ 1 ∧ rs.length ≤ n ∧ (∀ x ∈ rs, x ≤ 1) ∧ ps.length ≤ 16 ∧ (∀ x ∈ ps, x ≤ 1) ∧ gF [0, 1] s z ∧ cSt z b e a' ∧ sgR z S ∧ sgP z S.length ps (rs.getD 0 2) ∧
          mW (mRow (mType b e) (some 1) (n - rs.length) rs a') (fun rs => ∀ s', gF [0, 1] s s' → cSt s' b e rs.2 → sgR s' (S ++ [(ps, rs.1.getD 0 2)]) → K s') (cEv s K)) ∨ (∃ kk p, n' = 100 ∧ cEr z kk p ∧ sQ s z ∧ cEv s K kk p)) :=
        fun z kz _ => ⟨100, by show 100 < 4000; decide, rfl, Or.inr ⟨kk, p, rfl, her.keep kz, q.trans kz.q, hE⟩⟩
      exact ⟨fun _ => sf_X4_rowLength her.v (fun r s1 _ k1 => nx s1 k1 r), fun _ => ⟨fun z => absurd z her.bad, fun _ => sf_X4_rowLength her.v (fun r s1 _ k1 => nx s1 k1 r)⟩⟩
  · rintro m x1 x3 x4 σ ⟨rfl, (⟨n, ps, rs, a', rfl, rfl, rfl, hr1, hrn, hrx, hp, hp1, g, hs', hS', hP, hw⟩ | ⟨kk, p, rfl, her, q, hE⟩)⟩
    · unfold PX6_readSignature_130
      have c1 : nI (min n 16000) ≤ nI rs.length ↔ n ≤ rs.length := by rw [nI_leI (by omega) (by omega)]; omega
      rw [c1, hs'.2.2.1, nI_clamp (by omega)]
      refine ⟨fun c => ?_, fun c => ⟨fun _ => ?_, fun z => absurd rfl z⟩⟩
      · rw [show n - rs.length = 0 by omega] at hw
        refine hw σ g hs' ⟨by simp; omega, fun i x hx => ?_⟩
        by_cases q : i = S.length
        · rw [q, List.getElem?_append_right (Nat.le_refl _), Nat.sub_self] at hx
          cases hx
          rw [q]
          refine ⟨⟨hp, hp1, ?_⟩, hP.1, hP.2.1, hP.2.2⟩
          show rs.getD 0 2 ≤ 2
          cases rs with
          | nil => exact Nat.le_refl _
          | cons y r => exact Nat.le_succ_of_le (hrx y List.mem_cons_self)
        · have hi : i < S.length := by
            have := (List.getElem?_eq_some_iff.1 hx).1
            rw [List.length_append] at this
            simp at this
            omega
          rw [List.getElem?_append_left hi] at hx
          exact hS'.2 i x hx
      · rw [show n - rs.length = (n - (rs.length + 1)) + 1 by omega, mRow_s] at hw
        have er : ∀ kk p, ∀ z, cEr z kk p → sQ s z → cEv s K kk p → ∀ (x3 x4 : Int32), ∃ n', zlt n' (some (1000 - rs.length)) ∧ nI S.length = nI S.length ∧ ((∃ n ps rs a', n' = 1000 - rs.length ∧ x3 = nI (min n 16000) ∧ x4 = nI rs.length ∧ rs.length ≤ 1 ∧ rs.length ≤ n ∧ (∀ x ∈ rs, x ≤ 1) ∧ ps.length ≤ 16 ∧ (∀ x ∈ ps, x ≤ 1) ∧ gF [0, 1] s z ∧ cSt z b e a' ∧ sgR z S ∧ sgP z S.length ps (rs.getD 0 2) ∧
            mW (mRow (mType b e) (some 1) (n - rs.length) rs a') (fun rs => ∀ s', gF [0, 1] s s' → cSt s' b e rs.2 → sgR s' (S ++ [(ps, rs.1.getD 0 2)]) → K s') (cEv s K)) ∨ (∃ kk p, n' = 100 ∧ cEr z kk p ∧ sQ s z ∧ cEv s K kk p)) :=
          fun kk p z h1 h2 h3 _ _ => ⟨100, by show 100 < 1000 - rs.length; omega, rfl, Or.inr ⟨kk, p, rfl, h1, h2, h3⟩⟩
        by_cases q : rs.length = 1
        · rw [if_pos (by rw [q])] at hw
          have hw : cEv s K 4 a' := hw
          refine rd_refuseBeyond rs.length 1 hs' rfl rfl (by omega) (by decide) ?_
          rw [if_pos (by omega)]
          intro s1 her q1
          refine sf_X4_type her.v (fun r3 s2 k2 => ⟨vp_in_nI (by omega) (by decide), fun s4 e4 => ?_⟩)
          have k4 : sR s1 s4 := by rw [e4]; exact k2.i _ (by omega)
          exact er 4 a' s4 (her.keep k4) (((g.q (by decide)).trans q1).trans k4.q) hw _ _
        · rw [if_neg (fun z => q (Option.some.inj z).symm), mW_bind] at hw
          have hr0 : rs = [] := List.eq_nil_of_length_eq_zero (by omega)
          subst hr0
          refine rd_refuseBeyond 0 1 hs' rfl rfl (by omega) (by decide) ?_
          rw [if_neg (by decide)]
          refine rd_type hs' (mW_mono hw (fun r hr hw s1 k1 hs1 ht => ?_) (fun kk p hq h2 v s1 her q1 => ?_))
          · refine ⟨vp_in_nI (by omega) (by decide), fun s4 e4 => ?_⟩
            have k4 : sR s1 s4 := by rw [e4]; exact (sR.rf hs1.v).i _ (by omega)
            have g4 : gF [1] s1 s4 := by rw [e4]; exact gF.rf.i _ (gmem (k := 1) rfl (by decide))
            have S1 := sgR_q (k1.g.g (k := 1) (by decide)) hS'
            have P1 := sgP_q (k1.g.g (k := 1) (by decide)) hP
            refine ⟨999, by show 999 < 1000 - 0; decide, rfl, Or.inl ⟨n, ps, [r.1], r.2, rfl, rfl, rfl, Nat.le_refl _, by simp; omega, fun x hx => by rw [List.mem_singleton.1 hx]; exact ht, hp, hp1, (g.trans (k1.g.mono (by decide))).trans (g4.mono (by decide)), g4.st (by decide) (by decide) k4.2 hs1, ⟨S1.1, fun i x hx => ?_⟩, ⟨?_, fun j hj => ?_, ?_⟩, hw⟩⟩
            · have hi := (List.getElem?_eq_some_iff.1 hx).1
              obtain ⟨z1, z2, z3, z4⟩ := S1.2 i x hx
              refine ⟨z1, ?_, fun j hj => ?_, ?_⟩
              · rw [e4, zI1, if_neg (by omega)]; exact z2
              · rw [e4, zI1, if_neg (by omega)]; exact z3 j hj
              · rw [e4, zI1, if_neg (by omega)]; exact z4
            · rw [e4, zI1, if_neg (by omega)]; exact P1.1
            · rw [e4, zI1, if_neg (by omega)]; exact P1.2.1 j hj
            · rw [e4, zI1, if_pos ⟨rfl, rfl⟩, ← tyN1 ht]; rfl
          · refine ⟨vp_in_nI (by omega) (by decide), fun s4 e4 => ?_⟩
            have k4 : sR s1 s4 := by rw [e4]; exact (sR.rf her.v).i _ (by omega)
            exact er kk p s4 (her.keep k4) (((g.q (by decide)).trans q1).trans k4.q) h2 _ _
    · unfold PX6_readSignature_130
      exact ⟨fun _ => hE _ her q, fun _ => ⟨fun z => absurd z her.bad, fun _ => hE _ her q⟩⟩
  · unfold PX6_readSignature_0
    unfold mSig at h
    rw [mW_bind] at h
    refine rd_need 96 hs rfl rfl (by decide) (mW_mono h (fun a1 ha1 h s1 k1 hs1 => ?_) (fun k p hq h2 v s1 her q1 => ?_))
    · have n1 : s1.1 18 (1 : Int32).toNatClampNeg = nI S.length := by rw [show (1 : Int32).toNatClampNeg = 1 from rfl, (k1.g.g (k := 8) (by decide) 18 1 rfl).1]; exact h1
      have c1 : nI S.length < nI 64 ↔ S.length < 64 := nI_ltI (by omega) (by decide)
      rw [n1, c1, nI_clamp (by omega), hs1.2.2.1]
      refine ⟨by unfold vp_in; decide, fun _ => ⟨fun _ => ⟨vp_in_nI (by omega) (by decide), fun s3 e3 => ⟨vp_in_nI (by omega) (by decide), fun s4 e4 => ?_⟩⟩, fun z => absurd hl z⟩, fun z => absurd rfl z⟩
      have k4 : sR s1 s4 := by rw [e4, e3]; exact ((sR.rf hs1.v).i _ (by omega)).i _ (by omega)
      have g4 : gF [1] s1 s4 := by rw [e4, e3]; exact (gF.rf.i _ (gmem (k := 1) rfl (by decide))).i _ (gmem (k := 1) rfl (by decide))
      have hs4 := g4.st (by decide) (by decide) k4.2 hs1
      have S1 := sgR_q (k1.g.g (k := 1) (by decide)) hS
      have S4 : sgR s4 S := ⟨S1.1, fun i x hx => by
        have hi := (List.getElem?_eq_some_iff.1 hx).1
        obtain ⟨z1, z2, z3, z4⟩ := S1.2 i x hx
        refine ⟨z1, ?_, fun j hj => ?_, ?_⟩
        · rw [e4, zI1, if_neg (by omega), e3, zI1, if_neg (by omega)]; exact z2
        · rw [e4, zI1, if_neg (by omega), e3, zI1, if_neg (by omega)]; exact z3 j hj
        · rw [e4, zI1, if_neg (by omega), e3, zI1, if_neg (by omega)]; exact z4⟩
      have P4 : sgP s4 S.length [] 2 := ⟨by rw [e4, zI1, if_neg (by omega), e3, zI1, if_pos ⟨rfl, rfl⟩]; rfl, fun j hj => absurd hj (Nat.not_lt_zero _), by rw [e4, zI1, if_pos ⟨rfl, rfl⟩]; rfl⟩
      rw [mW_bind] at h
      have g14 : gF [0, 1] s s4 := (k1.g.mono (by decide)).trans (g4.mono (by decide))
      refine rd_rowLength hs4 (mW_mono h (fun r hr h s5 k5 hs5 => ?_) (fun k p hq h2 v s5 her q5 => ?_))
      · rw [mW_bind] at h
        exact ⟨5000, trivial, rfl, Or.inl ⟨r.1, [], r.2, rfl, rfl, rfl, by decide, Nat.zero_le _, fun x hx => absurd hx List.not_mem_nil, g14.trans (k5.g.mono (by decide)), hs5, sgR_q (k5.g.g (k := 1) (by decide)) S4, sgP_q (k5.g.g (k := 1) (by decide)) P4, h⟩⟩
      · exact ⟨4000, trivial, rfl, Or.inr ⟨k, p, rfl, her, (g14.q (by decide)).trans q5, h2⟩⟩
    · exact ⟨by unfold vp_in; decide, fun z => absurd z her.bad, fun _ => h2 _ her q1⟩
