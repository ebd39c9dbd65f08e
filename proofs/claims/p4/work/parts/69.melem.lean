/-! the reference's elements -/
/-- of the elements only row n is written -/
def eK (σ s : zS) (n : Nat) : Prop := (∀ c i, 42 ≤ c → c ≤ 46 → ¬ i = n → s.1 c i = σ.1 c i) ∧ s.1 1 7 = σ.1 1 7
theorem eK.rf {σ : zS} {n : Nat} : eK σ σ n := ⟨fun _ _ _ _ _ => rfl, rfl⟩
theorem eK.i {σ s : zS} {n c : Nat} (h : eK σ s n) (x : Int32) (h1 : 42 ≤ c) (h2 : c ≤ 46) : eK σ (zsI s c n x) n :=
  ⟨fun d i d1 d2 di => by rw [zI1, if_neg (by omega)]; exact h.1 d i d1 d2 di, by rw [zI1, if_neg (by omega)]; exact h.2⟩
theorem eK.at {σ s : zS} {n : Nat} (h : eK σ s n) (x : Nat) : eK σ (mAt s x) n :=
  ⟨fun d i d1 d2 di => by rw [mAt, zI1, if_neg (by omega)]; exact h.1 d i d1 d2 di, by rw [mAt, zI1, if_neg (by omega)]; exact h.2⟩
theorem mFn_in {b : Nat → Nat} {e : Nat} : ∀ a r, a ≤ e → mFn b e a = .ok r → a ≤ r.2 ∧ r.2 ≤ e := by
  intro a r ha h
  unfold mFn at h
  cases hu : mU b e a with
  | error q => rw [hu] at h; cases h
  | ok u => rw [hu] at h; cases h; have := mU_in hu ha; exact ⟨by omega, this.2⟩
/-- what row n of the elements holds -/
def eR (s : zS) (B n : Nat) (a kd c row cnt : Nat) : Prop := s.1 43 n = nI (B + a) ∧ s.1 42 n = nI kd ∧ (kd = 0 → s.1 44 n = nI (B + c)) ∧ s.1 45 n = nI (B + row) ∧ s.1 46 n = nI cnt
theorem eR.at {s : zS} {B n a kd c row cnt : Nat} (h : eR s B n a kd c row cnt) (x : Nat) : eR (mAt s x) B n a kd c row cnt := by
  unfold eR at h ⊢
  simpa [mAt, zI1] using h
theorem sp_element {τ σ : zS} {B : Nat} {b : Nat → Nat} {e a : Nat} {l : List mElT} {K : zS → Prop} {QX : zS → Prop} (hs : mSt τ σ B b e a) (hr : r9 σ B l)
    (h : mW (if l.length = 32 then .error (4, a) else mEl b e a) (fun r => ∀ σ', mSt τ σ' B b e r.2 → r9 σ' B (l ++ [r.1]) → mF 9 σ σ' → K σ') (mEr τ B QX)) : zCT zZM zmX10_elementLine [.ref 0, .ref 1] σ (zQv K) QX := by
  obtain ⟨hk, hb, hat, hen, hae, he, hB⟩ := id hs
  refine rX10_elementLine (fun m x5 x7 s => ∃ (N j p kd c row : Nat) (lst : List (Nat × Nat)), m + j = N ∧ N ≤ 256 ∧ x5 = lN N ∧ x7 = nI j ∧ lst.length = j ∧ l.length < 32 ∧ a < 16000 ∧ (kd = 0 ∨ kd = 1 ∨ kd = 3) ∧ c < 16000 ∧ row ≤ 16000 ∧
      mT 9 τ σ s B b e p ∧ eK σ s l.length ∧ eR s B l.length a kd c row N ∧
      mW ((mRow (mFn b e) none m lst p).bind fun l => (.ok ((a, kd, c, row, l.1), l.2) : mE (mElT × Nat))) (fun r => ∀ σ', mSt τ σ' B b e r.2 → r9 σ' B (l ++ [r.1]) → mF 9 σ σ' → K σ') (mEr τ B QX)) ?_ ?_
  · rintro m x5 x7 s ⟨N, j, p, kd, c, row, lst, hm, hN, rfl, rfl, hlst, hl, ha, hkd, hc, hrow, hT, kT, eT, hw⟩
    unfold PX10_elementLine_142
    have c1 : lN N ≤ (nI j).toInt64 ↔ N ≤ j := by rw [nI_l (by omega)]; exact lN_leB (by omega) (by omega)
    rw [c1]
    refine ⟨fun q s1 e1 => ?_, fun q => ?_⟩
    · have : m = 0 := by omega
      subst this
      rw [mRow0] at hw
      have hw : ∀ σ', mSt τ σ' B b e p → r9 σ' B (l ++ [(a, kd, c, row, lst)]) → mF 9 σ σ' → K σ' := hw
      have h1 : mT 9 τ σ s1 B b e p := by rw [e1]; exact hT.i _ rfl (by omega)
      have n0 : s.1 1 7 = nI l.length := by rw [kT.2]; exact hr.1
      rw [n0, nI_1] at e1
      have fr : ∀ c i, 42 ≤ c → s1.1 c i = s.1 c i := fun c i hc => by rw [e1, zI1, if_neg (by omega)]
      refine hw s1 h1.1 ⟨?_, ?_, row_app (fun i y hi hy => ?_) ?_⟩ h1.2
      · rw [e1, len_app]; simp [zI1]
      · rw [len_app]; omega
      · rw [fr 43 i (by decide), fr 42 i (by decide), fr 44 i (by decide), fr 45 i (by decide), fr 46 i (by decide), kT.1 43 i (by decide) (by decide) (by omega), kT.1 42 i (by decide) (by decide) (by omega), kT.1 44 i (by decide) (by decide) (by omega), kT.1 45 i (by decide) (by decide) (by omega), kT.1 46 i (by decide) (by decide) (by omega)]
        exact hr.2.2 i y hy
      · rw [fr 43 _ (by decide), fr 42 _ (by decide), fr 44 _ (by decide), fr 45 _ (by decide), fr 46 _ (by decide)]
        refine ⟨ha, hkd, hc, hrow, by show lst.length ≤ 256; omega, eT.1, eT.2.1, eT.2.2.1, eT.2.2.2.1, ?_⟩
        show s.1 46 l.length = nI lst.length
        rw [show lst.length = N by omega]
        exact eT.2.2.2.2
    · obtain ⟨m', rfl⟩ : ∃ z, m = z + 1 := ⟨m - 1, by omega⟩
      rw [mRowS, if_neg (by simp), Except_bind_assoc] at hw
      unfold mFn at hw
      rw [Except_bind_assoc, mW_bind] at hw
      refine sp_u hT.1 (mW_mono hw (fun u hu hw => ?_) (fun k p _ h => h))
      have u1 := mU_in hu hT.1.2.2.2.2.1
      exact ⟨m', Nat.lt_succ_self m', N, j + 1, u.2, kd, c, row, lst ++ [(p, u.1)], by omega, hN, rfl, nI_1 j, by rw [len_app, hlst], hl, ha, hkd, hc, hrow, hT.at u1.2, kT.at _, eT.at _, hw⟩
  · unfold PX10_elementLine_0
    have c32 : nI l.length = (32 : Int32) ↔ l.length = 32 := nI_eq (b := 32) (by have := hr.2.1; omega) (by decide)
    rw [hr.1, c32, hat]
    rw [mW_ite] at h
    refine ⟨fun q => ?_, fun q => ?_⟩
    · rw [if_pos q] at h
      exact sp_throw (k := 4) hk h
    · rw [if_neg q] at h
      have hl : l.length < 32 := by have := hr.2.1; omega
      have vl : vp_in (nI l.length) 32 := vp_in_nI hl (by decide)
      unfold mEl at h
      rw [mW_bind] at h
      rw [nI_clamp (by omega)]
      refine ⟨vl, fun s3 e3 => ?_⟩
      have h3 : mT 9 τ σ s3 B b e a := by rw [e3]; exact (mT.of hs).i _ rfl (by omega)
      have k3 : eK σ s3 l.length := by rw [e3]; exact eK.rf.i _ (by decide) (by decide)
      have g43 : s3.1 43 l.length = nI (B + a) := by rw [e3, zI1, if_pos ⟨rfl, rfl⟩]
      refine sp_octet h3.1 (mW_mono h (fun k hk' h => ?_) (fun k p _ h => h))
      obtain ⟨k1, rfl⟩ := mOct_in hk'
      have hbk := (hb a (by omega)).1
      have c0 : nI (b a) = (0 : Int32) ↔ b a = 0 := nI_eq (b := 0) (by omega) (by decide)
      have c1 : nI (b a) = (1 : Int32) ↔ b a = 1 := nI_eq (b := 1) (by omega) (by decide)
      have c3 : nI (b a) = (3 : Int32) ↔ b a = 3 := nI_eq (b := 3) (by omega) (by decide)
      have h4 : mT 9 τ σ (mAt s3 (B + (a + 1))) B b e (a + 1) := h3.at (by omega)
      have k4 := k3.at (B + (a + 1))
      have g4 : (mAt s3 (B + (a + 1))).1 43 l.length = nI (B + a) := by rw [mAt, zI1, if_neg (by omega)]; exact g43
      rw [mW_ite] at h
      have good : (b a = 0 ∨ b a = 1 ∨ b a = 3) → PX10_elementLine_62 (fun y5 y7 τ_1 => ∃ n', zlt n' none ∧ ∃ (N j p kd c row : Nat) (lst : List (Nat × Nat)), n' + j = N ∧ N ≤ 256 ∧ y5 = lN N ∧ y7 = nI j ∧ lst.length = j ∧ l.length < 32 ∧ a < 16000 ∧ (kd = 0 ∨ kd = 1 ∨ kd = 3) ∧ c < 16000 ∧ row ≤ 16000 ∧
      mT 9 τ σ τ_1 B b e p ∧ eK σ τ_1 l.length ∧ eR τ_1 B l.length a kd c row N ∧
      mW ((mRow (mFn b e) none n' lst p).bind fun l => (.ok ((a, kd, c, row, l.1), l.2) : mE (mElT × Nat))) (fun r => ∀ σ', mSt τ σ' B b e r.2 → r9 σ' B (l ++ [r.1]) → mF 9 σ σ' → K σ') (mEr τ B QX)) (zQv K) QX (nI l.length) (nI (b a)) (mAt s3 (B + (a + 1))) := by
        intro qk
        rw [if_neg (fun z => z qk), mW_bind] at h
        unfold PX10_elementLine_62
        rw [nI_clamp (by omega), c0]
        refine ⟨vl, fun s1 e1 => ?_⟩
        have h1 : mT 9 τ σ s1 B b e (a + 1) := by rw [e1]; exact h4.i _ rfl (by omega)
        have k1' : eK σ s1 l.length := by rw [e1]; exact k4.i _ (by decide) (by decide)
        have g1 : s1.1 43 l.length = nI (B + a) := by rw [e1, zI1, if_neg (by omega)]; exact g4
        have g2 : s1.1 42 l.length = nI (b a) := by rw [e1, zI1, if_pos ⟨rfl, rfl⟩]
        have tail : ∀ p s5, a + 1 ≤ p → mT 9 τ σ s5 B b e p → eK σ s5 l.length → s5.1 43 l.length = nI (B + a) → s5.1 42 l.length = nI (b a) → (b a = 0 → s5.1 44 l.length = nI (B + (a + 1))) →
            mW ((mU b e p).bind fun n => if 256 < n.1 then .error (4, p) else (mRow (mFn b e) none n.1 [] n.2).bind fun l => (.ok ((a, b a, a + 1, n.2, l.1), l.2) : mE (mElT × Nat))) (fun r => ∀ σ', mSt τ σ' B b e r.2 → r9 σ' B (l ++ [r.1]) → mF 9 σ σ' → K σ') (mEr τ B QX) →
            PX10_elementLine_91 (fun y5 y7 τ_1 => ∃ n', zlt n' none ∧ ∃ (N j p kd c row : Nat) (lst : List (Nat × Nat)), n' + j = N ∧ N ≤ 256 ∧ y5 = lN N ∧ y7 = nI j ∧ lst.length = j ∧ l.length < 32 ∧ a < 16000 ∧ (kd = 0 ∨ kd = 1 ∨ kd = 3) ∧ c < 16000 ∧ row ≤ 16000 ∧
      mT 9 τ σ τ_1 B b e p ∧ eK σ τ_1 l.length ∧ eR τ_1 B l.length a kd c row N ∧
      mW ((mRow (mFn b e) none n' lst p).bind fun l => (.ok ((a, kd, c, row, l.1), l.2) : mE (mElT × Nat))) (fun r => ∀ σ', mSt τ σ' B b e r.2 → r9 σ' B (l ++ [r.1]) → mF 9 σ σ' → K σ') (mEr τ B QX)) (zQv K) QX (nI l.length) s5 := by
          intro p s5 hap h5 k5 f43 f42 f44 h
          unfold PX10_elementLine_91
          rw [mW_bind] at h
          refine sp_u h5.1 (mW_mono h (fun u hu h => ?_) (fun k p _ h => h))
          have u1 := mU_in hu h5.1.2.2.2.2.1
          have u2 := mU_lt hu
          have h6 : mT 9 τ σ (mAt s5 (B + u.2)) B b e u.2 := h5.at u1.2
          have c256 : lN u.1 ≤ (256 : Int64) ↔ u.1 ≤ 256 := lN_leB (b := 256) (by omega) (by decide)
          rw [c256, nI_clamp (by omega), h6.1.2.2.1]
          rw [mW_ite] at h
          refine ⟨fun q2 => ⟨vl, fun s7 e7 => ⟨vl, fun s8 e8 => ?_⟩⟩, fun q2 => ?_⟩
          · rw [if_neg (show ¬ 256 < u.1 by omega)] at h
            rw [lN_i] at e8
            have h7 : mT 9 τ σ s7 B b e u.2 := by rw [e7]; exact h6.i _ rfl (by omega)
            have h8 : mT 9 τ σ s8 B b e u.2 := by rw [e8]; exact h7.i _ rfl (by omega)
            refine ⟨u.1, trivial, u.1, 0, u.2, b a, a + 1, u.2, [], rfl, q2, rfl, rfl, rfl, hl, by omega, qk, by omega, by omega, h8, ?_, ?_, h⟩
            · rw [e8, e7]; exact ((k5.at _).i _ (by decide) (by decide)).i _ (by decide) (by decide)
            · rw [e8, e7]
              unfold eR
              simpa [zI1, mAt] using ⟨f43, f42, f44⟩
          · rw [if_pos (by omega)] at h
            rw [h5.1.2.2.1]
            exact sp_throw (k := 4) h6.1.1 h
        refine ⟨fun q0 => ?_, fun q0 => ?_⟩
        · rw [if_pos q0] at h
          refine sp_constant h1.1 (mW_mono h (fun c hc h => ?_) (fun k p _ h => h))
          obtain ⟨d1, d2⟩ := mConst_in hc
          refine ⟨vl, fun s9 e9 => ?_⟩
          have h9 : mT 9 τ σ s9 B b e c := by rw [e9]; exact (h1.at d2).i _ rfl (by omega)
          refine tail c s9 (by omega) h9 (by rw [e9]; exact (k1'.at _).i _ (by decide) (by decide)) ?_ ?_ ?_ h
          · rw [e9]; simpa [zI1, mAt] using g1
          · rw [e9]; simpa [zI1, mAt] using g2
          · intro _; rw [e9]; simp [zI1]
        · rw [if_neg q0] at h
          refine sp_needOctet (v := 0) h1.1 (by decide) (mW_mono h (fun r hr' h => ?_) (fun k p _ h => h))
          obtain ⟨z1, rfl, z3⟩ := mNeed_in hr'
          refine tail (a + 1 + 1) _ (by omega) (h1.at (by omega)) (k1'.at _) ?_ ?_ (fun z => absurd z q0) h
          · simpa [zI1, mAt] using g1
          · simpa [zI1, mAt] using g2
      rw [c0, c1, c3]
      refine ⟨fun q0 => good (Or.inl q0), fun q0 => ⟨fun q1 => good (Or.inr (Or.inl q1)), fun q1 => ⟨fun q3 => good (Or.inr (Or.inr q3)), fun q3 => ⟨vl, ?_⟩⟩⟩⟩
      rw [if_pos (by omega)] at h
      rw [g4]
      exact sp_throw (k := 1) h4.1.1 h
