/-! the reference's reading of items -/
theorem mSt.fi {τ σ : zS} {B : Nat} {b : Nat → Nat} {e a : Nat} (h : mSt τ σ B b e a) {c j : Nat} (x : Int32) (hz : ¬ zown c j = 0) (hz2 : ¬ zown c j = 99) (hk : ¬ kpd c j) : mSt τ (zsI σ c j x) B b e a :=
  h.i x hk (fun q => hz (by rcases q.2 with r | r <;> rw [q.1, r] <;> rfl))
theorem sp_limits {τ σ : zS} {B : Nat} {b : Nat → Nat} {e a : Nat} {K : zS → Prop} {QX : zS → Prop} (hs : mSt τ σ B b e a)
    (h : mW (mLim b e a) (fun r => r.1.1 < 2 ^ 35 → (∀ n, r.1.2 = some n → n < 2 ^ 35) → ∀ σ', mSt τ σ' B b e r.2 → mOwn [12, 16, 17] σ σ' → σ'.2 0 16 = lN r.1.1 → σ'.2 0 17 = optL r.1.2 → K σ') (mEr τ B QX)) : zCT zZM zmX10_limits [.ref 0] σ (zQv K) QX := by
  refine rX10_limits ?_
  obtain ⟨hk, hb, hat, hen, hae, he, hB⟩ := id hs
  unfold PX10_limits_0
  unfold mLim mFlag at h
  rw [mW_bind, mW_bind] at h
  refine sp_octet hs (mW_mono h (fun r hr h => ?_) (fun k p _ h => h))
  obtain ⟨h1, rfl⟩ := mOct_in hr
  have hba := (hb a (by omega)).1
  have c1 : nI (b a) ≤ (1 : Int32) ↔ b a ≤ 1 := nI_leI (b := 1) (by omega) (by decide)
  have e1 : nI (b a) = (1 : Int32) ↔ b a = 1 := nI_eq (b := 1) (by omega) (by decide)
  rw [mW_ite] at h
  rw [c1]
  refine ⟨fun q => ?_, fun q => ?_⟩
  · rw [if_pos q, mW_ok, mW_bind] at h
    have hs1 := hs.at (a' := a + 1) (by omega)
    refine sp_u hs1 (mW_mono h (fun u hu h => ?_) (fun k p _ h => h))
    have u1 := mU_in hu (show a + 1 ≤ e by omega)
    have u2 := mU_lt hu
    rw [mAt_mAt]
    intro s5 e5
    have hs5 : mSt τ s5 B b e u.2 := by rw [e5]; exact (hs.at u1.2).l _ (by unfold kpd; omega)
    have ho5 : mOwn [12, 16, 17] σ s5 := by rw [e5]; exact (mOwn.rf.i _ (by simp)).l _ (by simp)
    rw [e1]
    refine ⟨fun q2 => ?_, fun q2 => ?_⟩
    · simp only [q2, if_true] at h
      rw [mW_bind] at h
      refine sp_u hs5 (mW_mono h (fun t ht h => ?_) (fun k p _ h => h))
      have t1 := mU_in ht u1.2
      intro s8 e8
      refine h u2 (fun n hn => by cases hn; exact mU_lt ht) s8 ?_ ?_ ?_ ?_
      · rw [e8]; exact (hs5.at t1.2).l _ (by unfold kpd; omega)
      · rw [e8]; exact (ho5.i _ (by simp)).l _ (by simp)
      · rw [e8, zL2, if_neg (by omega), mAt, zI2, e5, zL2, if_pos ⟨rfl, rfl⟩]
      · rw [e8, zL2, if_pos ⟨rfl, rfl⟩]; rfl
    · simp only [q2, if_false] at h
      intro s9 e9
      refine h u2 (fun n hn => by cases hn) s9 ?_ ?_ ?_ ?_
      · rw [e9]; exact hs5.l _ (by unfold kpd; omega)
      · rw [e9]; exact ho5.l _ (by simp)
      · rw [e9, zL2, if_neg (by omega), e5, zL2, if_pos ⟨rfl, rfl⟩]
      · rw [e9, zL2, if_pos ⟨rfl, rfl⟩]; rfl
  · rw [if_neg q] at h
    rw [hat]
    exact sp_throw (k := 1) (hs.at (by omega)).1 h
theorem sp_constant {τ σ : zS} {B : Nat} {b : Nat → Nat} {e a : Nat} {K : Int32 → zS → Prop} {QX : zS → Prop} (hs : mSt τ σ B b e a)
    (h : mW (mConst b e a) (fun r => K (nI (B + a)) (mAt σ (B + r))) (mEr τ B QX)) : zCT zZM zmX10_constant [.ref 0] σ (zQi K) QX := by
  refine rX10_constant ?_
  obtain ⟨hk, hb, hat, hen, hae, he, hB⟩ := id hs
  unfold PX10_constant_0
  unfold mConst at h
  rw [mW_bind] at h
  refine sp_octet hs (mW_mono h (fun r hr h => ?_) (fun k p _ h => h))
  obtain ⟨h1, rfl⟩ := mOct_in hr
  have hba := (hb a (by omega)).1
  have c65 : nI (b a) = (65 : Int32) ↔ b a = 65 := nI_eq (b := 65) (by omega) (by decide)
  have c66 : nI (b a) = (66 : Int32) ↔ b a = 66 := nI_eq (b := 66) (by omega) (by decide)
  have c35 : nI (b a) = (35 : Int32) ↔ b a = 35 := nI_eq (b := 35) (by omega) (by decide)
  have hs1 := hs.at (a' := a + 1) (by omega)
  rw [hat]
  simp only [c65, c66, c35]
  refine ⟨fun q => ?_, fun q => ⟨fun q2 => ?_, fun q2 => ⟨fun q3 => ?_, fun q3 => ?_⟩⟩⟩
  · rw [if_pos q, mW_bind] at h
    refine sp_s hs1 (mW_mono h (fun r hr h x => ?_) (fun k p _ h => h))
    have u1 := mSk_in _ _ _ hr (show a + 1 ≤ e by omega)
    rw [mAt_mAt]
    refine sp_needOctet (v := 11) (hs.at u1.2) (by decide) (mW_mono h (fun r hr h => ?_) (fun k p _ h => h))
    rw [mAt_mAt]; exact h
  · rw [if_neg q, if_pos q2, mW_bind] at h
    refine sp_l hs1 (mW_mono h (fun r hr h x => ?_) (fun k p _ h => h))
    have u1 := mSk_in _ _ _ hr (show a + 1 ≤ e by omega)
    rw [mAt_mAt]
    refine sp_needOctet (v := 11) (hs.at u1.2) (by decide) (mW_mono h (fun r hr h => ?_) (fun k p _ h => h))
    rw [mAt_mAt]; exact h
  · rw [if_neg q, if_neg q2, if_pos q3, mW_bind] at h
    refine sp_u hs1 (mW_mono h (fun r hr h => ?_) (fun k p _ h => h))
    have u1 := mU_in hr (show a + 1 ≤ e by omega)
    rw [mAt_mAt]
    refine sp_needOctet (v := 11) (hs.at u1.2) (by decide) (mW_mono h (fun r hr h => ?_) (fun k p _ h => h))
    rw [mAt_mAt]; exact h
  · rw [if_neg q, if_neg q2, if_neg q3] at h
    exact sp_throw (k := 1) hs1.1 h
/-- a row of types, as the signature's number -/
theorem sp_signature {τ σ : zS} {B : Nat} {b : Nat → Nat} {e a : Nat} {l : List mSigT} {K : zS → Prop} {QX : zS → Prop} (hs : mSt τ σ B b e a) (hr : r1 σ l)
    (h : mW (if l.length = 64 then .error (4, a) else mSig b e a) (fun r => ∀ σ', mSt τ σ' B b e r.2 → r1 σ' (l ++ [r.1]) → mF 1 σ σ' → K σ') (mEr τ B QX)) : zCT zZM zmX10_signature [.ref 0, .ref 1] σ (zQv K) QX := by
  obtain ⟨hk, hb, hat, hen, hae, he, hB⟩ := id hs
  refine rX10_signature
    (fun m x2 x4 x5 s => ∃ (N : Nat) (ps : List Nat) (a' m' : Nat), m = m' + 2 ^ 36 ∧ m' + ps.length = N ∧ N < 2 ^ 35 ∧ x2 = lN N ∧ x5 = lN ps.length ∧ x4 = nI (32 * psV ps) ∧ ps.length ≤ 16 ∧ (∀ x ∈ ps, x ≤ 1) ∧ ¬ l.length = 64 ∧ mSt τ s B b e a' ∧ s = mAt σ (B + a') ∧
      mW ((mRow (mType b e) (some 16) m' ps a').bind fun ps => (mU b e ps.2).bind fun m => (mRow (mType b e) (some 1) m.1 [] m.2).bind fun rs => (.ok ((ps.1, rs.1.getD 0 2), rs.2) : mE (mSigT × Nat))) (fun r => ∀ σ', mSt τ σ' B b e r.2 → r1 σ' (l ++ [r.1]) → mF 1 σ σ' → K σ') (mEr τ B QX))
    (fun m x4 x5 x7 x8 s => ∃ (M : Nat) (ps rs : List Nat) (a' : Nat), m + rs.length = M ∧ M < 2 ^ 35 ∧ x5 = lN M ∧ x8 = lN rs.length ∧ x4 = nI (32 * psV ps + ps.length) ∧ x7 = nI (rs.getD 0 2) ∧ ps.length ≤ 16 ∧ (∀ x ∈ ps, x ≤ 1) ∧ rs.length ≤ 1 ∧ (∀ x ∈ rs, x ≤ 1) ∧ ¬ l.length = 64 ∧ mSt τ s B b e a' ∧ s = mAt σ (B + a') ∧
      mW ((mRow (mType b e) (some 1) m rs a').bind fun rs => (.ok ((ps, rs.1.getD 0 2), rs.2) : mE (mSigT × Nat))) (fun r => ∀ σ', mSt τ σ' B b e r.2 → r1 σ' (l ++ [r.1]) → mF 1 σ σ' → K σ') (mEr τ B QX)) ?_ ?_ ?_
  · rintro m x2 x4 x5 s ⟨N, ps, a', m', rfl, hm, hN, rfl, rfl, rfl, hps, hp1, hne, hs', rfl, hw⟩
    unfold PX10_signature_36
    obtain ⟨hk', hb', hat', hen', hae', he', hB'⟩ := id hs'
    have c1 : lN N ≤ lN ps.length ↔ N ≤ ps.length := lN_leB (by omega) (by omega)
    have c16 : lN ps.length = (16 : Int64) ↔ ps.length = 16 := lN_eq (b := 16) (by omega) (by decide)
    rw [c1, c16]
    refine ⟨fun q => ?_, fun q => ⟨fun q2 => ?_, fun q2 => ?_⟩⟩
    · have : m' = 0 := by omega
      subst this
      rw [mRow0] at hw
      have hw : mW ((mU b e a').bind fun m => (mRow (mType b e) (some 1) m.1 [] m.2).bind fun rs => (.ok ((ps, rs.1.getD 0 2), rs.2) : mE (mSigT × Nat))) _ _ := hw
      rw [mW_bind] at hw
      refine sp_u hs' (mW_mono hw (fun u hu hw => ?_) (fun k p _ h => h))
      have u1 := mU_in hu hae'
      rw [mAt_mAt]
      refine ⟨u.1, ?_, u.1, ps, [], u.2, rfl, mU_lt hu, rfl, rfl, ?_, rfl, hps, hp1, by simp, by simp, hne, hs.at u1.2, rfl, hw⟩
      · show u.1 < 0 + 2 ^ 36
        have := mU_lt hu; omega
      · rw [show N = ps.length by omega, lN_i]
        exact fa_or_sum (a := ps.length) (k := 5) (psV ps) (by omega)
    · obtain ⟨m'', rfl⟩ : ∃ z, m' = z + 1 := ⟨m' - 1, by omega⟩
      rw [mRowS] at hw
      rw [if_pos (by rw [q2])] at hw
      rw [hat']
      exact sp_throw (k := 4) hs'.1 hw
    · obtain ⟨m'', rfl⟩ : ∃ z, m' = z + 1 := ⟨m' - 1, by omega⟩
      rw [mRowS] at hw
      rw [if_neg (fun z => q2 (Option.some.inj z).symm), Except_bind_assoc, mW_bind] at hw
      refine sp_type hs' (mW_mono hw (fun t ht hw => ?_) (fun k p _ h => h))
      obtain ⟨t1, t2, t3, t4⟩ := mType_in ht
      rw [mAt_mAt]
      refine ⟨m'' + 2 ^ 36, ?_, N, ps ++ [t.1], t.2, m'', rfl, ?_, hN, rfl, ?_, ?_, ?_, ?_, hne, hs.at (by omega), rfl, hw⟩
      · show m'' + 2 ^ 36 < m'' + 1 + 2 ^ 36; omega
      · simp only [List.length_append, List.length_cons, List.length_nil]; omega
      · rw [show (1 : Int64) = lN 1 from rfl, lN_add]; simp only [List.length_append, List.length_cons, List.length_nil]
      · have hv := psV_lt hp1
        have hpl : 2 ^ ps.length ≤ 2 ^ 15 := Nat.pow_le_pow_right (by decide) (by omega)
        have e1 : (5 : Int32) + (lN ps.length).toInt32 = nI (5 + ps.length) := by rw [lN_i]; exact nI_add 5 _
        have ht1 : t.1 * 2 ^ (5 + ps.length) = 2 ^ (5 + ps.length) * t.1 := Nat.mul_comm _ _
        have hlt : t.1 * 2 ^ (5 + ps.length) ≤ 2 ^ 20 := by
          have : 2 ^ (5 + ps.length) ≤ 2 ^ 20 := Nat.pow_le_pow_right (by decide) (by omega)
          calc t.1 * 2 ^ (5 + ps.length) ≤ 1 * 2 ^ (5 + ps.length) := Nat.mul_le_mul_right _ t3
            _ ≤ 2 ^ 20 := by omega
        rw [e1, shI (by omega) (by omega), ht1, Int32.or_comm, fa_or_sum (a := 32 * psV ps) (k := 5 + ps.length) t.1 (by rw [Nat.pow_add]; omega), psV_app]
        congr 1
        rw [Nat.pow_add]
        have : 2 ^ 5 * 2 ^ ps.length * t.1 = 32 * (t.1 * 2 ^ ps.length) := by rw [Nat.mul_assoc, Nat.mul_comm (2 ^ ps.length)]
        omega
      · simp only [List.length_append, List.length_cons, List.length_nil]; omega
      · intro x hx
        rcases List.mem_append.mp hx with q | q
        · exact hp1 x q
        · rw [List.mem_singleton.mp q]; exact t3
  · rintro m x4 x5 x7 x8 s ⟨M, ps, rs, a', hm, hM, rfl, rfl, rfl, rfl, hps, hp1, hrs, hr1, hne, hs', rfl, hw⟩
    unfold PX10_signature_105
    obtain ⟨hk', hb', hat', hen', hae', he', hB'⟩ := id hs'
    have c1 : lN M ≤ lN rs.length ↔ M ≤ rs.length := lN_leB (by omega) (by omega)
    have c16 : lN rs.length = (1 : Int64) ↔ rs.length = 1 := lN_eq (b := 1) (by omega) (by decide)
    have e2 : (mAt σ (B + a')).1 1 2 = nI l.length := by rw [mAt, zI1, if_neg (by omega)]; exact hr.1
    rw [c1, c16, e2]
    refine ⟨fun q => ?_, fun q => ⟨fun q2 => ?_, fun q2 => ?_⟩⟩
    · have : m = 0 := by omega
      subst this
      rw [mRow0] at hw
      have hw : ∀ σ', mSt τ σ' B b e a' → r1 σ' (l ++ [(ps, rs.getD 0 2)]) → mF 1 σ σ' → K σ' := hw
      have hl64 : l.length < 64 := by have := hr.2.1; omega
      rw [nI_clamp (by omega)]
      refine ⟨vp_in_nI hl64 (by decide), ?_⟩
      intro s1 es1 s2 es2
      have hrd : rs.getD 0 2 ≤ 2 := by
        cases rs with
        | nil => simp
        | cons x r => have := hr1 x List.mem_cons_self; simp; omega
      have hsig : (nI (32 * psV ps + ps.length) ||| nI (rs.getD 0 2) <<< ((21 : Int32) &&& 31)) = nI (sigC (ps, rs.getD 0 2)) := by
        have hv := psV_lt hp1
        have hpl : 2 ^ ps.length ≤ 2 ^ 16 := Nat.pow_le_pow_right (by decide) (by omega)
        have e21 : nI (rs.getD 0 2) <<< ((21 : Int32) &&& 31) = nI (rs.getD 0 2 * 2 ^ 21) := shI (j := 21) (by decide) (by omega)
        rw [e21, Nat.mul_comm _ (2 ^ 21), Int32.or_comm, fa_or_sum (a := 32 * psV ps + ps.length) (k := 21) _ (by omega)]
        congr 1
        simp only [sigC]
        omega
      rw [hsig] at es1
      have hs1 : mSt τ s1 B b e a' := by rw [es1]; exact hs'.i _ (by unfold kpd; omega) (by omega)
      have hs2 : mSt τ s2 B b e a' := by rw [es2]; exact hs1.i _ (by unfold kpd; omega) (by omega)
      have e12 : s1.1 1 2 = nI l.length := by rw [es1, zI1, if_neg (by omega)]; exact e2
      refine hw s2 hs2 ⟨?_, ?_, ?_, ?_⟩ ?_
      · rw [es2, zI1, if_pos ⟨rfl, rfl⟩, e12]
        simp only [List.length_append, List.length_cons, List.length_nil]
        exact nI_1 _
      · simp only [List.length_append, List.length_cons, List.length_nil]; omega
      · intro x hx
        rcases List.mem_append.mp hx with q | q
        · exact hr.2.2.1 x q
        · rw [List.mem_singleton.mp q]; exact ⟨hps, hp1, hrd⟩
      · intro i hi
        simp only [List.length_append, List.length_cons, List.length_nil] at hi
        rw [es2, zI1, if_neg (by omega), es1, zI1]
        by_cases hil : i = l.length
        · rw [if_pos ⟨rfl, hil⟩, hil]
          simp
        · rw [if_neg (by omega), mAt, zI1, if_neg (by omega), hr.2.2.2 i (by omega)]
          simp [List.getD_eq_getElem?_getD, List.getElem?_append_left (show i < l.length by omega)]
      · rw [es2, es1]
        exact mF.i (k := 1) (mF.i (k := 1) (mF.at mF.rf _) _ (Or.inr rfl)) _ (Or.inr rfl)
    · obtain ⟨m'', rfl⟩ : ∃ z, m = z + 1 := ⟨m - 1, by omega⟩
      rw [mRowS] at hw
      rw [if_pos (by rw [q2])] at hw
      rw [hat']
      exact sp_throw (k := 4) hs'.1 hw
    · obtain ⟨m'', rfl⟩ : ∃ z, m = z + 1 := ⟨m - 1, by omega⟩
      rw [mRowS] at hw
      rw [if_neg (fun z => q2 (Option.some.inj z).symm), Except_bind_assoc, mW_bind] at hw
      refine sp_type hs' (mW_mono hw (fun t ht hw => ?_) (fun k p _ h => h))
      obtain ⟨t1, t2, t3, t4⟩ := mType_in ht
      have h0 : rs.length = 0 := by omega
      have hrs0 : rs = [] := List.length_eq_zero_iff.mp h0
      subst hrs0
      rw [mAt_mAt]
      refine ⟨m'', Nat.lt_succ_self m'', M, ps, [t.1], t.2, by simpa using hm, hM, rfl, ?_, rfl, rfl, hps, hp1, by simp, by simpa using t3, hne, hs.at (by omega), rfl, hw⟩
      rfl
  · unfold PX10_signature_0
    have c64 : nI l.length = (64 : Int32) ↔ l.length = 64 := nI_eq (b := 64) (by have := hr.2.1; omega) (by decide)
    rw [hr.1, c64, hat]
    rw [mW_ite] at h
    refine ⟨fun q => ?_, fun q => ?_⟩
    · rw [if_pos q] at h
      exact sp_throw (k := 4) hk h
    · rw [if_neg q] at h
      unfold mSig at h
      rw [mW_bind] at h
      refine sp_needOctet (v := 96) hs (by decide) (mW_mono h (fun r hr' h => ?_) (fun k p _ h => h))
      obtain ⟨n1, rfl, n3⟩ := mNeed_in hr'
      rw [mW_bind] at h
      refine sp_u (hs.at (by omega)) (mW_mono h (fun u hu h => ?_) (fun k p _ h => h))
      have u1 := mU_in hu (show a + 1 ≤ e by omega)
      rw [mAt_mAt]
      refine ⟨u.1 + 2 ^ 36, trivial, u.1, [], u.2, u.1, rfl, rfl, mU_lt hu, rfl, rfl, rfl, by simp, by simp, q, hs.at u1.2, rfl, h⟩
