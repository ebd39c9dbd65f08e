/-! the reference reads a body -/
theorem mSt.end {τ σ : zS} {B : Nat} {b : Nat → Nat} {e a : Nat} (h : mSt τ σ B b e a) {e1 : Nat} (h1 : a ≤ e1) (h2 : e1 ≤ 16000) : mSt τ (zsI σ 0 13 (nI (B + e1))) B b e1 a :=
  ⟨h.1.i _ (by unfold kpd; omega), fun j hj => by rw [zI1, if_neg (by omega)]; exact h.2.1 j hj, by rw [zI1, if_neg (by omega)]; exact h.2.2.1, by rw [zI1, if_pos ⟨rfl, rfl⟩], h1, h2, h.2.2.2.2.2.2⟩
theorem mT.end {k : Nat} {τ σ0 σ : zS} {B : Nat} {b : Nat → Nat} {e a : Nat} (h : mT k τ σ0 σ B b e a) {e1 : Nat} (h1 : a ≤ e1) (h2 : e1 ≤ 16000) : mT k τ σ0 (zsI σ 0 13 (nI (B + e1))) B b e1 a := ⟨h.1.end h1 h2, h.2.i _ (Or.inl rfl)⟩
/-- of cells other than the reader's, the same -/
def bK (σ s : zS) : Prop := ∀ c i, ¬ c = 6 → ¬ c = 0 → s.1 c i = σ.1 c i ∧ s.2 c i = σ.2 c i
theorem bK.of {σ s : zS} (h : cK σ s) : bK σ s := fun c i h1 h2 => h c i h1 (fun z => h2 z.1)
theorem bK.trans {σ s u : zS} (h : bK σ s) (h2 : bK s u) : bK σ u := fun c i a z => ⟨(h2 c i a z).1.trans (h c i a z).1, (h2 c i a z).2.trans (h c i a z).2⟩
theorem bK.rf {σ : zS} : bK σ σ := fun _ _ _ _ => ⟨rfl, rfl⟩
theorem bK.i {σ s : zS} (h : bK σ s) (j : Nat) (x : Int32) : bK σ (zsI s 0 j x) := fun c i a z => ⟨by rw [zI1, if_neg (fun q => z q.1)]; exact (h c i a z).1, (h c i a z).2⟩
theorem bK.at {σ s : zS} (h : bK σ s) (x : Nat) : bK σ (mAt s x) := h.i _ _
theorem mF.of_cK {σ s : zS} {k : Nat} (h : cK σ s) (hk : k = 10) : mF k σ s := fun c i h0 hz => by
  subst hk
  refine h c i (fun q => hz (by rw [q]; rfl)) (fun q => h0 (by rw [q.1, q.2]; rfl))
theorem sp_body {τ σ : zS} {B : Nat} {b : Nat → Nat} {e a : Nat} {hc : Bool} {l : List mBdT} {K : zS → Prop} {QX : zS → Prop} (hs : mSt τ σ B b e a) (hcs : σ.1 0 18 = bI hc) (hr : r10 σ B l) (hla : l.length ≤ a)
    (h : mW (mBd b e hc a) (fun r => ∀ σ', mSt τ σ' B b e r.2 → r10 σ' B (l ++ [r.1]) → mF 10 σ σ' → K σ') (mEr τ B QX)) : zCT zZM zmX10_body [.ref 0, .ref 1] σ (zQv K) QX := by
  obtain ⟨hk, hb, hat, hen, hae, he, hB⟩ := id hs
  refine rX10_body (fun m x5 x6 x7 x9 x11 s => ∃ (N j sum z e1 p : Nat) (lst : List (Nat × Nat)), m + j = N ∧ N < 2 ^ 35 ∧ sum ≤ 64 ∧ x5 = nI (B + e) ∧ x6 = nI (B + z) ∧ x7 = lN N ∧ x9 = lN sum ∧ x11 = lN j ∧ a < z ∧ z ≤ p ∧ e1 ≤ e ∧
      mT 10 τ σ s B b e1 p ∧ bK σ s ∧ s.1 0 18 = bI hc ∧
      mW ((mGrp b e1 m sum lst p).bind fun g => (mCode b e1 hc (e1 + 1 - g.2) [] [] g.2).bind fun c => if c.2 < e1 then .error (1, c.2) else (.ok ((z, g.2, e1, g.1, c.1), e1) : mE (mBdT × Nat))) (fun r => ∀ σ', mSt τ σ' B b e r.2 → r10 σ' B (l ++ [r.1]) → mF 10 σ σ' → K σ') (mEr τ B QX)) ?_ ?_
  · rintro m x5 x6 x7 x9 x11 s ⟨N, j, sum, z, e1, p, lst, hm, hN, hsum, rfl, rfl, rfl, rfl, rfl, haz, hzp, he1, hT, hbk, h18, hw⟩
    have hpe := hT.1.2.2.2.2.1
    unfold PX10_body_67
    have c1 : lN N ≤ lN j ↔ N ≤ j := lN_leB (by omega) (by omega)
    rw [c1, hT.1.2.2.1]
    refine ⟨fun q => ?_, fun q => ?_⟩
    · have : m = 0 := by omega
      subst this
      have hw : mW ((mCode b e1 hc (e1 + 1 - p) [] [] p).bind fun c => if c.2 < e1 then .error (1, c.2) else (.ok ((z, p, e1, lst, c.1), e1) : mE (mBdT × Nat))) (fun r => ∀ σ', mSt τ σ' B b e r.2 → r10 σ' B (l ++ [r.1]) → mF 10 σ σ' → K σ') (mEr τ B QX) := hw
      rw [mW_bind] at hw
      refine sp_readCode hT.1 h18 (mW_mono hw (fun c hc hw => ?_) (fun k p _ h => h))
      intro s1 hs1 hck1
      have h1 : mT 10 τ σ s1 B b e1 c.2 := ⟨hs1, hT.2.trans (mF.of_cK hck1 rfl)⟩
      have hbk1 := hbk.trans (bK.of hck1)
      have hce := hs1.2.2.2.2.1
      have ce : nI (B + e1) ≤ nI (B + c.2) ↔ e1 ≤ c.2 := by rw [nI_leI (by omega) (by omega)]; omega
      rw [hs1.2.2.2.1, hs1.2.2.1, ce]
      rw [mW_ite] at hw
      refine ⟨fun q1 => ?_, fun q1 => ?_⟩
      · rw [if_neg (by omega)] at hw
        have hw : ∀ σ', mSt τ σ' B b e e1 → r10 σ' B (l ++ [(z, p, e1, lst, c.1)]) → mF 10 σ σ' → K σ' := hw
        have hcq : c.2 = e1 := by omega
        have n1 : s1.1 1 9 = nI l.length := by rw [(hbk1 1 9 (by decide) (by decide)).1]; exact hr.1
        have c64 : (64 : Int32) ≤ nI l.length ↔ 64 ≤ l.length := nI_leI (a := 64) (by decide) (by omega)
        rw [n1, c64]
        have old : ∀ s9 : zS, (∀ c i, 52 ≤ c → c ≤ 54 → ¬ i = l.length → s9.1 c i = s1.1 c i) → ∀ (i : Nat) (y : mBdT), i < l.length → i < 64 → l[i]? = some y → y.1 ≤ 16000 ∧ y.2.1 ≤ 16000 ∧ y.2.2.1 ≤ 16000 ∧ s9.1 52 i = nI (B + y.1) ∧ s9.1 53 i = nI (B + y.2.1) ∧ s9.1 54 i = nI (B + y.2.2.1) := fun s9 f9 i y hi h64 hy => by
          rw [f9 52 i (by decide) (by decide) (by omega), f9 53 i (by decide) (by decide) (by omega), f9 54 i (by decide) (by decide) (by omega), (hbk1 52 i (by decide) (by decide)).1, (hbk1 53 i (by decide) (by decide)).1, (hbk1 54 i (by decide) (by decide)).1]
          exact hr.2.2 i y h64 hy
        refine ⟨fun q2 s2 e2 s3 e3 => ?_, fun q2 => ⟨vp_in_nI (by omega) (by decide), fun s4 e4 => ?_⟩⟩
        · rw [nI_1] at e2
          have h2 : mT 10 τ σ s2 B b e1 c.2 := by rw [e2]; exact h1.i _ rfl (by omega)
          have h3 : mT 10 τ σ s3 B b e c.2 := by rw [e3]; exact h2.end (by omega) (by omega)
          rw [hcq] at h3
          refine hw s3 h3.1 ⟨?_, ?_, fun i y h64 hy => row_app (P := fun i y => i < 64 → y.1 ≤ 16000 ∧ y.2.1 ≤ 16000 ∧ y.2.2.1 ≤ 16000 ∧ s3.1 52 i = nI (B + y.1) ∧ s3.1 53 i = nI (B + y.2.1) ∧ s3.1 54 i = nI (B + y.2.2.1)) (fun i y hi hy h64 => ?_) (fun z => absurd z (by omega)) i y hy h64⟩ h3.2
          · rw [e3, e2, len_app]; simp [zI1]
          · rw [len_app]; omega
          · refine old s3 (fun c i c1 c2 _ => ?_) i y hi h64 hy
            rw [e3, zI1, if_neg (by omega), e2, zI1, if_neg (by omega)]
        · rw [nI_clamp (by omega)] at e4
          have h4 : mT 10 τ σ s4 B b e1 c.2 := by rw [e4]; exact h1.i _ rfl (by omega)
          have n4 : s4.1 1 9 = nI l.length := by rw [e4, zI1, if_neg (by omega)]; exact n1
          rw [n4, nI_clamp (by omega)]
          refine ⟨vp_in_nI (by omega) (by decide), fun s5 e5 => ?_⟩
          have h5 : mT 10 τ σ s5 B b e1 c.2 := by rw [e5]; exact h4.i _ rfl (by omega)
          have n5 : s5.1 1 9 = nI l.length := by rw [e5, zI1, if_neg (by omega)]; exact n4
          rw [n5, nI_clamp (by omega), h5.1.2.2.2.1]
          refine ⟨vp_in_nI (by omega) (by decide), fun s6 e6 s7 e7 s8 e8 => ?_⟩
          have h6 : mT 10 τ σ s6 B b e1 c.2 := by rw [e6]; exact h5.i _ rfl (by omega)
          have n6 : s6.1 1 9 = nI l.length := by rw [e6, zI1, if_neg (by omega)]; exact n5
          have h7 : mT 10 τ σ s7 B b e1 c.2 := by rw [e7]; exact h6.i _ rfl (by omega)
          have h8 : mT 10 τ σ s8 B b e c.2 := by rw [e8]; exact h7.end (by omega) (by omega)
          rw [hcq] at h8
          rw [n6, nI_1] at e7
          refine hw s8 h8.1 ⟨?_, ?_, fun i y h64 hy => row_app (P := fun i y => i < 64 → y.1 ≤ 16000 ∧ y.2.1 ≤ 16000 ∧ y.2.2.1 ≤ 16000 ∧ s8.1 52 i = nI (B + y.1) ∧ s8.1 53 i = nI (B + y.2.1) ∧ s8.1 54 i = nI (B + y.2.2.1)) (fun i y hi hy h64 => ?_) (fun _ => ?_) i y hy h64⟩ h8.2
          · rw [e8, e7, len_app]; simp [zI1]
          · rw [len_app]; omega
          · refine old s8 (fun c i c1 c2 ci => ?_) i y hi h64 hy
            rw [e8, zI1, if_neg (by omega), e7, zI1, if_neg (by omega), e6, zI1, if_neg (by omega), e5, zI1, if_neg (by omega), e4, zI1, if_neg (by omega)]
          · refine ⟨by show z ≤ 16000; omega, by show p ≤ 16000; omega, by show e1 ≤ 16000; omega, ?_⟩
            rw [e8, e7, e6, e5, e4]
            simp [zI1]
      · rw [if_pos (by omega)] at hw
        exact sp_throw (k := 1) hs1.1 hw
    · obtain ⟨m', rfl⟩ : ∃ z, m = z + 1 := ⟨m - 1, by omega⟩
      have hw : mW (((mU b e1 p).bind fun u => (mType b e1 u.2).bind fun t => if 64 < sum + u.1 then .error (4, p) else mGrp b e1 m' (sum + u.1) (lst ++ [(u.1, t.1)]) t.2).bind fun g => (mCode b e1 hc (e1 + 1 - g.2) [] [] g.2).bind fun c => if c.2 < e1 then .error (1, c.2) else (.ok ((z, g.2, e1, g.1, c.1), e1) : mE (mBdT × Nat))) (fun r => ∀ σ', mSt τ σ' B b e r.2 → r10 σ' B (l ++ [r.1]) → mF 10 σ σ' → K σ') (mEr τ B QX) := hw
      rw [Except_bind_assoc, mW_bind] at hw
      refine sp_u hT.1 (mW_mono hw (fun u hu hw => ?_) (fun k p _ h => h))
      have u1 := mU_in hu hpe
      have u2 := mU_lt hu
      rw [Except_bind_assoc, mW_bind] at hw
      refine sp_type (hT.1.at u1.2) (mW_mono hw (fun t ht hw => ?_) (fun k p _ h => h))
      obtain ⟨t1, t2, t3, t4⟩ := mType_in ht
      have h2 : mT 10 τ σ (mAt (mAt s (B + u.2)) (B + t.2)) B b e1 t.2 := (hT.at u1.2).at (by omega)
      have c64 : lN sum + lN u.1 ≤ (64 : Int64) ↔ sum + u.1 ≤ 64 := by rw [lN_add]; exact lN_leB (b := 64) (by omega) (by decide)
      rw [c64]
      refine ⟨fun q1 => ?_, fun q1 => ?_⟩
      · rw [if_neg (by omega)] at hw
        refine ⟨m', Nat.lt_succ_self m', N, j + 1, sum + u.1, z, e1, t.2, lst ++ [(u.1, t.1)], by omega, hN, q1, rfl, rfl, rfl, by rw [lN_add], by rw [show (1 : Int64) = lN 1 from rfl, lN_add], haz, by omega, he1, h2, (hbk.at _).at _, ?_, hw⟩
        rw [mAt, zI1, if_neg (by omega), mAt, zI1, if_neg (by omega)]; exact h18
      · rw [if_pos (by omega)] at hw
        exact sp_throw (k := 4) h2.1.1 hw
  · unfold PX10_body_0
    unfold mBd at h
    rw [mW_bind] at h
    refine sp_u hs (mW_mono h (fun u hu h => ?_) (fun k p _ h => h))
    have u1 := mU_in hu hae
    have u2 := mU_lt hu
    have h1 : mT 10 τ σ (mAt σ (B + u.2)) B b e u.2 := (mT.of hs).at u1.2
    have ce : lN u.1 ≤ ((mAt σ (B + u.2)).1 0 13 - (mAt σ (B + u.2)).1 0 12).toInt64 ↔ u.1 ≤ e - u.2 := by
      rw [h1.1.2.2.2.1, h1.1.2.2.1, pk_sub (by omega), nI_l (by omega), pk_lLE (by omega) (by omega)]; omega
    rw [ce, h1.1.2.2.1, h1.1.2.2.2.1, hat, lN_i, nI_add, Nat.add_assoc]
    rw [mW_ite] at h
    refine ⟨fun q s3 e3 => ?_, fun q => ?_⟩
    · rw [if_neg (by omega)] at h
      have h3 : mT 10 τ σ s3 B b (u.2 + u.1) u.2 := by rw [e3]; exact h1.end (by omega) (by omega)
      have b3 : bK σ s3 := by rw [e3]; exact (bK.rf.at _).i _ _
      have g18 : s3.1 0 18 = bI hc := by rw [e3, zI1, if_neg (by omega), mAt, zI1, if_neg (by omega)]; exact hcs
      rw [mW_bind] at h
      refine sp_u h3.1 (mW_mono h (fun n hn h => ?_) (fun k p _ h => h))
      have n1 := mU_in hn (show u.2 ≤ u.2 + u.1 by omega)
      have n2 := mU_lt hn
      rw [h3.1.2.2.1]
      refine ⟨n.1, trivial, n.1, 0, 0, u.2, u.2 + u.1, n.2, [], rfl, n2, by decide, rfl, rfl, rfl, rfl, rfl, u1.1, by omega, by omega, h3.at n1.2, b3.at _, ?_, h⟩
      rw [mAt, zI1, if_neg (by omega)]; exact g18
    · rw [if_pos (by omega)] at h
      exact sp_throw (k := 1) h1.1.1 h
