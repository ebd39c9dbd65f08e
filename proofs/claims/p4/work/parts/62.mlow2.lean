/-! more of the reference's reading methods -/
theorem sp_signed {τ σ : zS} {B : Nat} {b : Nat → Nat} {e a g lo hi : Nat} {K : Int64 → zS → Prop} {QX : zS → Prop} (hs : mSt τ σ B b e a) (hg : 1 ≤ g ∧ g ≤ 10) (hlo : lo < 256) (hhi : hi < 256)
    (h : mW (mSg b e g lo hi a) (fun r => ∀ x : Int64, K x (mAt σ (B + r))) (mEr τ B QX)) : zCT zZM zmX10_signed [.ref 0, .int (nI g), .int (nI lo), .int (nI hi)] σ (zQl K) QX := by
  refine rX10_signed (fun m x1 x2 x3 x4 x5 x7 s => ∃ k a', m + k = g ∧ x1 = nI g ∧ x2 = nI lo ∧ x3 = nI hi ∧ x4 = nI (B + a) ∧ x7 = nI k ∧ mSt τ s B b e a' ∧ s = mAt σ (B + a') ∧ mW (mSk b e a g lo hi m k a') (fun r => ∀ x : Int64, K x (mAt σ (B + r))) (mEr τ B QX)) ?_ ?_
  · rintro m x1 x2 x3 x4 x5 x7 s ⟨k, a', hmk, rfl, rfl, rfl, rfl, rfl, hs', rfl, hw⟩
    obtain ⟨hk, hb, hat, hen, hae, he, hB⟩ := id hs'
    unfold PX10_signed_12
    refine ⟨fun hc => ?_, fun hc => ?_⟩
    · have hm : m = 0 := by have := (nI_leI (a := g) (b := k) (by omega) (by omega)).mp hc; omega
      subst hm
      exact hw x5
    · have hk5 : ¬ g ≤ k := fun q => hc ((nI_leI (a := g) (b := k) (by omega) (by omega)).mpr q)
      obtain ⟨m, rfl⟩ : ∃ q, m = q + 1 := ⟨m - 1, by omega⟩
      unfold mSk at hw
      rw [mW_bind] at hw
      refine sp_octet hs' (mW_mono hw (fun r hr hw => ?_) (fun k p _ h => h))
      obtain ⟨h1, rfl⟩ := mOct_in hr
      have hba := (hb a' (by omega)).1
      rw [mAt_mAt]
      have cg : nI k = nI g - (1 : Int32) ↔ k + 1 = g := by
        have : nI g - (1 : Int32) = nI (g - 1) := pk_sub (a := g) (b := 1) (by omega)
        rw [this, nI_eq (by omega) (by omega)]; omega
      have clo : nI (b a') ≤ nI lo ↔ b a' ≤ lo := nI_leI (by omega) (by omega)
      have chi : nI (b a') < nI hi ↔ b a' < hi := nI_ltI (by omega) (by omega)
      have c127 : nI (b a') ≤ (127 : Int32) ↔ b a' ≤ 127 := nI_leI (b := 127) (by omega) (by decide)
      have c128 : (128 : Int32) ≤ nI (b a') ↔ 128 ≤ b a' := nI_leI (a := 128) (by decide) (by omega)
      rw [mW_ite] at hw
      have rest : ∀ x : Int64, ¬ (k + 1 = g ∧ lo < b a' ∧ (b a' < hi ∨ 127 < b a')) → PX10_signed_76 (fun y1 y2 y3 y4 y5 y7 τ' => ∃ n', zlt n' (some (m + 1)) ∧ ∃ k a', n' + k = g ∧ y1 = nI g ∧ y2 = nI lo ∧ y3 = nI hi ∧ y4 = nI (B + a) ∧ y7 = nI k ∧ mSt τ τ' B b e a' ∧ τ' = mAt σ (B + a') ∧ mW (mSk b e a g lo hi n' k a') (fun r => ∀ x : Int64, K x (mAt σ (B + r))) (mEr τ B QX)) (zQl K) QX (nI g) (nI lo) (nI hi) (nI (B + a)) x (nI k) (nI (b a')) (mAt σ (B + (a' + 1))) := by
        intro x hn
        rw [if_neg hn, mW_ite] at hw
        unfold PX10_signed_76
        rw [c128]
        refine ⟨fun h128 => ?_, fun h128 => ?_⟩
        · rw [if_neg (by omega)] at hw
          exact ⟨m, Nat.lt_succ_self m, k + 1, a' + 1, by omega, rfl, rfl, rfl, rfl, nI_1 k, hs.at (by omega), rfl, hw⟩
        · rw [if_pos (by omega)] at hw
          exact ⟨fun _ => hw _, fun _ => ⟨fun _ => hw _, fun _ => hw _⟩⟩
      have bad : (k + 1 = g ∧ lo < b a' ∧ (b a' < hi ∨ 127 < b a')) → ∀ K', PX10_signed_68 K' (zQl K) QX (nI (B + a)) (mAt σ (B + (a' + 1))) := by
        intro hy K'
        rw [if_pos hy] at hw
        exact sp_throw (hs.at (by omega)).1 hw
      rw [cg, clo, chi, c127]
      exact ⟨fun h1 => ⟨fun h2 => rest _ (by omega), fun h2 => ⟨fun h3 => bad (by omega) _, fun h3 => ⟨fun h4 => rest _ (by omega), fun h4 => bad (by omega) _⟩⟩⟩, fun h1 => rest _ (by omega)⟩
  · unfold PX10_signed_0
    refine ⟨g, trivial, 0, a, rfl, rfl, rfl, rfl, hs.2.2.1, rfl, hs, ?_, h⟩
    refine Prod.ext ?_ rfl
    funext c j
    show _ = (zsI σ 0 12 _).1 c j
    rw [zI1]
    split
    · rename_i q; rw [q.1, q.2]; exact hs.2.2.1
    · rfl
theorem sp_s {τ σ : zS} {B : Nat} {b : Nat → Nat} {e a : Nat} {K : Int32 → zS → Prop} {QX : zS → Prop} (hs : mSt τ σ B b e a)
    (h : mW (mSg b e 5 7 120 a) (fun r => ∀ x : Int32, K x (mAt σ (B + r))) (mEr τ B QX)) : zCT zZM zmX10_s [.ref 0] σ (zQi K) QX := by
  refine rX10_s ?_
  unfold PX10_s_0
  exact sp_signed (g := 5) (lo := 7) (hi := 120) hs (by decide) (by decide) (by decide) (mW_mono h (fun r _ h x => h _) (fun k p _ h => h))
theorem sp_l {τ σ : zS} {B : Nat} {b : Nat → Nat} {e a : Nat} {K : Int64 → zS → Prop} {QX : zS → Prop} (hs : mSt τ σ B b e a)
    (h : mW (mSg b e 10 0 127 a) (fun r => ∀ x : Int64, K x (mAt σ (B + r))) (mEr τ B QX)) : zCT zZM zmX10_l [.ref 0] σ (zQl K) QX := by
  refine rX10_l ?_
  unfold PX10_l_0
  exact sp_signed (g := 10) (lo := 0) (hi := 127) hs (by decide) (by decide) (by decide) (mW_mono h (fun r _ h x => h _) (fun k p _ h => h))
theorem sp_type {τ σ : zS} {B : Nat} {b : Nat → Nat} {e a : Nat} {K : Int32 → zS → Prop} {QX : zS → Prop} (hs : mSt τ σ B b e a)
    (h : mW (mType b e a) (fun r => K (nI r.1) (mAt σ (B + r.2))) (mEr τ B QX)) : zCT zZM zmX10_type [.ref 0] σ (zQi K) QX := by
  refine rX10_type ?_
  obtain ⟨hk, hb, hat, hen, hae, he, hB⟩ := id hs
  unfold PX10_type_0
  unfold mType at h
  rw [mW_bind] at h
  refine sp_octet hs (mW_mono h (fun r hr h => ?_) (fun k p _ h => h))
  obtain ⟨h1, rfl⟩ := mOct_in hr
  have hba := (hb a (by omega)).1
  have c127 : nI (b a) = (127 : Int32) ↔ b a = 127 := nI_eq (b := 127) (by omega) (by decide)
  have c126 : nI (b a) = (126 : Int32) ↔ b a = 126 := nI_eq (b := 126) (by omega) (by decide)
  have hsub : b a ≤ 127 → (127 : Int32) - nI (b a) = nI (127 - b a) := fun q => pk_sub (a := 127) q
  rw [mW_ite] at h
  simp only [c127, c126]
  refine ⟨fun q => ?_, fun q => ⟨fun q2 => ?_, fun q2 => ?_⟩⟩
  · rw [if_pos (Or.inl q)] at h
    show K _ _
    rw [hsub (by omega)]; exact h
  · rw [if_pos (Or.inr q2)] at h
    show K _ _
    rw [hsub (by omega)]; exact h
  · rw [if_neg (by omega)] at h
    rw [hat]
    exact sp_throw (hs.at (by omega)).1 h
theorem sp_flag {τ σ : zS} {B : Nat} {b : Nat → Nat} {e a : Nat} {K : Int32 → zS → Prop} {QX : zS → Prop} (hs : mSt τ σ B b e a)
    (h : mW (mFlag b e a) (fun r => K (nI r.1) (mAt σ (B + r.2))) (mEr τ B QX)) : zCT zZM zmX10_flag [.ref 0] σ (zQi K) QX := by
  refine rX10_flag ?_
  obtain ⟨hk, hb, hat, hen, hae, he, hB⟩ := id hs
  unfold PX10_flag_0
  unfold mFlag at h
  rw [mW_bind] at h
  refine sp_octet hs (mW_mono h (fun r hr h => ?_) (fun k p _ h => h))
  obtain ⟨h1, rfl⟩ := mOct_in hr
  have hba := (hb a (by omega)).1
  have c1 : nI (b a) ≤ (1 : Int32) ↔ b a ≤ 1 := nI_leI (b := 1) (by omega) (by decide)
  have e1 : nI (b a) = (1 : Int32) ↔ b a = 1 := nI_eq (b := 1) (by omega) (by decide)
  rw [mW_ite] at h
  rw [c1, e1]
  refine ⟨fun q => ⟨fun q2 => ?_, fun q2 => ?_⟩, fun q => ?_⟩
  · rw [if_pos q] at h
    refine ⟨Or.inr rfl, ?_⟩
    have : K (nI (b a)) (mAt σ (B + (a + 1))) := h
    rw [q2] at this
    exact this
  · rw [if_pos q] at h
    refine ⟨Or.inl rfl, ?_⟩
    have : K (nI (b a)) (mAt σ (B + (a + 1))) := h
    rw [show b a = 0 by omega] at this
    exact this
  · rw [if_neg q] at h
    rw [hat]
    exact sp_throw (hs.at (by omega)).1 h
theorem sp_blockType {τ σ : zS} {B : Nat} {b : Nat → Nat} {e a : Nat} {K : Int32 → zS → Prop} {QX : zS → Prop} (hs : mSt τ σ B b e a)
    (h : mW (mBt b e a) (fun r => K (nI r.1) (mAt σ (B + r.2))) (mEr τ B QX)) : zCT zZM zmX10_blockType [.ref 0] σ (zQi K) QX := by
  refine rX10_blockType ?_
  obtain ⟨hk, hb, hat, hen, hae, he, hB⟩ := id hs
  unfold PX10_blockType_0
  unfold mBt at h
  rw [mW_bind] at h
  refine sp_octet hs (mW_mono h (fun r hr h => ?_) (fun k p _ h => h))
  obtain ⟨h1, rfl⟩ := mOct_in hr
  have hba := (hb a (by omega)).1
  have c64 : nI (b a) = (64 : Int32) ↔ b a = 64 := nI_eq (b := 64) (by omega) (by decide)
  have c127 : nI (b a) = (127 : Int32) ↔ b a = 127 := nI_eq (b := 127) (by omega) (by decide)
  have c126 : nI (b a) = (126 : Int32) ↔ b a = 126 := nI_eq (b := 126) (by omega) (by decide)
  have hsub : b a ≤ 127 → (127 : Int32) - nI (b a) = nI (127 - b a) := fun q => pk_sub (a := 127) q
  rw [mW_ite, mW_ite] at h
  have j : ∀ s, s = mAt σ (B + (a + 1)) → (b a = 64 ∨ b a = 127 ∨ b a = 126) → ((b a = 64 → zQi K (some (.int (2 : Int32))) s) ∧ (¬ b a = 64 → zQi K (some (.int ((127 : Int32) - nI (b a)))) s)) := by
    intro s es q
    subst es
    refine ⟨fun q => ?_, fun q2 => ?_⟩
    · rw [if_pos q] at h
      exact h
    · rw [if_neg q2, if_pos (by omega)] at h
      show K _ _
      rw [hsub (by omega)]; exact h
  simp only [c127, c126, c64]
  refine ⟨fun q => j _ rfl (by omega), fun q => ⟨fun q2 => j _ rfl (by omega), fun q2 => ⟨fun q3 => j _ rfl (by omega), fun q3 => ?_⟩⟩⟩
  rw [if_neg q, if_neg (by omega)] at h
  rw [hat]
  exact sp_throw (hs.at (by omega)).1 h
theorem mSign33 : ∀ x, x < 256 → (sb_b x < (33 : Int32) ↔ ¬ (33 ≤ x ∧ x ≤ 127)) := by decide +kernel
theorem mSign126 : ∀ x, x < 256 → ¬ sb_b x < (33 : Int32) → (sb_b x ≤ (126 : Int32) ↔ x ≤ 126) := by decide +kernel
/-- the same but for these places of the reader's own -/
def mOwn (l : List Nat) (σ σ' : zS) : Prop := (∀ c i, ¬ (c = 0 ∧ i ∈ l) → σ'.1 c i = σ.1 c i) ∧ (∀ c i, ¬ (c = 0 ∧ i ∈ l) → σ'.2 c i = σ.2 c i)
theorem mOwn.i {l : List Nat} {σ σ' : zS} (h : mOwn l σ σ') {j : Nat} (x : Int32) (hj : j ∈ l) : mOwn l σ (zsI σ' 0 j x) :=
  ⟨fun c i q => by rw [zI1, if_neg (fun z => q ⟨z.1, by rw [z.2]; exact hj⟩)]; exact h.1 c i q, h.2⟩
theorem mOwn.l {l : List Nat} {σ σ' : zS} (h : mOwn l σ σ') {j : Nat} (x : Int64) (hj : j ∈ l) : mOwn l σ (zsL σ' 0 j x) :=
  ⟨h.1, fun c i q => by rw [zL2, if_neg (fun z => q ⟨z.1, by rw [z.2]; exact hj⟩)]; exact h.2 c i q⟩
theorem mOwn.rf {l : List Nat} {σ : zS} : mOwn l σ σ := ⟨fun _ _ _ => rfl, fun _ _ _ => rfl⟩
theorem mOwn.trans {l l2 : List Nat} {σ σ' σ'' : zS} (h : mOwn l σ σ') (h2 : mOwn l2 σ' σ'') (hl : ∀ x ∈ l2, x ∈ l) : mOwn l σ σ'' :=
  ⟨fun c i q => (h2.1 c i (fun z => q ⟨z.1, hl i z.2⟩)).trans (h.1 c i q), fun c i q => (h2.2 c i (fun z => q ⟨z.1, hl i z.2⟩)).trans (h.2 c i q)⟩
theorem mOwn.at (σ : zS) (x : Nat) : mOwn [12] σ (mAt σ x) := mOwn.rf.i _ (by simp)
theorem sp_name {τ σ : zS} {B : Nat} {b : Nat → Nat} {e a : Nat} {short : Bool} {w : Int32} {K : zS → Prop} {QX : zS → Prop} (hs : mSt τ σ B b e a) (hw : w = if short = true then 1 else 0)
    (h : mW (mName b e short a) (fun r => ∀ σ', mSt τ σ' B b e r.2 → mOwn [12, 14, 15] σ σ' → σ'.1 0 14 = nI (B + r.1.1) → σ'.1 0 15 = nI r.1.2 → K σ') (mEr τ B QX)) : zCT zZM zmX10_nameItem [.ref 0, .int w] σ (zQv K) QX := by
  obtain ⟨hk, hb, hat, hen, hae, he, hB⟩ := id hs
  unfold mName at h
  rw [mW_bind] at h
  refine rX10_nameItem (fun m x1 x2 x3 x5 s => ∃ st n j, m + j = n ∧ 1 ≤ n ∧ n ≤ 100 ∧ st + n ≤ e ∧ x1 = w ∧ x2 = nI (B + a) ∧ x3 = lN n ∧ x5 = nI j ∧ mSt τ s B b e st ∧ mOwn [12, 14, 15] σ s ∧ s.1 0 14 = nI (B + st) ∧ s.1 0 15 = nI n ∧ mGood b st j = true ∧
      mW (if mGood b st n = true then (if short = true ∧ 40 < n then .error (4, a) else .ok ((st, n), st + n)) else .error (1, a) : mE ((Nat × Nat) × Nat)) (fun r => ∀ σ', mSt τ σ' B b e r.2 → mOwn [12, 14, 15] σ σ' → σ'.1 0 14 = nI (B + r.1.1) → σ'.1 0 15 = nI r.1.2 → K σ') (mEr τ B QX)) ?_ ?_
  · rintro m x1 x2 x3 x5 s ⟨st, n, j, hmj, hn1, hn2, hst, rfl, rfl, rfl, rfl, hs', ho, h14, h15, hg, hw'⟩
    obtain ⟨hk', hb', hat', hen', hae', he', hB'⟩ := id hs'
    unfold PX10_nameItem_63
    have cj : lN n ≤ (nI j).toInt64 ↔ n ≤ j := by rw [nI_l (by omega), lN_le (by omega) (by omega)]
    rw [cj]
    refine ⟨fun hc => ?_, fun hc => ?_⟩
    · have ej : j = n := by omega
      subst ej
      rw [if_pos hg, mW_ite] at hw'
      intro s1 es1
      have e12 : (s.1 0 12) + (s.1 0 15) = nI (B + (st + j)) := by rw [hat', h15, nI_add, Nat.add_assoc]
      rw [e12] at es1
      have hs1 : mSt τ s1 B b e (st + j) := by rw [es1]; exact hs'.at hst
      have ho1 : mOwn [12, 14, 15] σ s1 := by rw [es1]; exact ho.i _ (by simp)
      have h14' : s1.1 0 14 = nI (B + st) := by rw [es1, zI1, if_neg (by omega)]; exact h14
      have h15' : s1.1 0 15 = nI j := by rw [es1, zI1, if_neg (by omega)]; exact h15
      have c40 : lN j ≤ (40 : Int64) ↔ j ≤ 40 := lN_le (b := 40) (by omega) (by decide)
      rw [c40]
      cases short with
      | false =>
        rw [if_neg (by simp)] at hw'
        have h0 : x1 = 0 := hw
        exact ⟨fun _ => hw' s1 hs1 ho1 h14' h15', fun q => absurd h0 q⟩
      | true =>
        have h0 : ¬ x1 = 0 := by rw [hw]; decide
        refine ⟨fun q => absurd q h0, fun _ => ⟨fun q => ?_, fun q => ?_⟩⟩
        · rw [if_neg (by omega)] at hw'
          exact hw' s1 hs1 ho1 h14' h15'
        · rw [if_pos ⟨rfl, by omega⟩] at hw'
          exact sp_throw (k := 4) hs1.1 hw'
    · have hbj := hb' (st + j) (by omega)
      have ei : (s.1 0 12) + nI j = nI (B + (st + j)) := by rw [hat', nI_add, Nat.add_assoc]
      rw [ei, nI_clamp (by omega), hbj.2]
      have cs33 : sb_b (b (st + j)) < (33 : Int32) ↔ ¬ (33 ≤ b (st + j) ∧ b (st + j) ≤ 127) := mSign33 _ hbj.1
      have cs126 : ¬ sb_b (b (st + j)) < (33 : Int32) → (sb_b (b (st + j)) ≤ (126 : Int32) ↔ b (st + j) ≤ 126) := mSign126 _ hbj.1
      have gs : mGood b st (j + 1) = true ↔ (33 ≤ b (st + j) ∧ b (st + j) ≤ 126) := by simp [mGood, hg]
      have gn : ¬ (33 ≤ b (st + j) ∧ b (st + j) ≤ 126) → ¬ mGood b st n = true := fun q z => q ((mGood_iff _ _ _).mp z j (by omega))
      have bad : ¬ (33 ≤ b (st + j) ∧ b (st + j) ≤ 126) → mEr τ B QX 1 a := fun q => by rw [if_neg (gn q)] at hw'; exact hw'
      refine ⟨vp_in_nI (by omega) (by decide), fun q => ?_, fun q => ⟨vp_in_nI (by omega) (by decide), fun q2 => ?_, fun q2 => ?_⟩⟩
      · exact sp_throw (k := 1) hs'.1 (bad (by have := cs33.mp q; omega))
      · have q3 := (cs126 q).mp q2
        have q4 : 33 ≤ b (st + j) ∧ b (st + j) ≤ 127 := Classical.byContradiction fun z => q (cs33.mpr z)
        exact ⟨m - 1, by show m - 1 < m; omega, st, n, j + 1, by omega, hn1, hn2, hst, rfl, rfl, rfl, nI_1 j, hs', ho, h14, h15, gs.mpr ⟨q4.1, q3⟩, hw'⟩
      · exact sp_throw (k := 1) hs'.1 (bad (fun z => q2 ((cs126 q).mpr z.2)))
  · unfold PX10_nameItem_0
    refine sp_u hs (mW_mono h (fun r hr h => ?_) (fun k p _ h => h))
    have h1 := mU_in hr hae
    have h2 := mU_lt hr
    have hs1 := hs.at h1.2
    have e12 : (mAt σ (B + r.2)).1 0 12 = nI (B + r.2) := hs1.2.2.1
    have e13 : (mAt σ (B + r.2)).1 0 13 = nI (B + e) := hs1.2.2.2.1
    rw [mW_ite] at h
    have c1 : lN r.1 < (1 : Int64) ↔ r.1 < 1 := pk_lLT (b := 1) (by omega) (by decide)
    have c100 : (100 : Int64) < lN r.1 ↔ 100 < r.1 := pk_lLT (a := 100) (by decide) (by omega)
    have ce : lN r.1 ≤ ((mAt σ (B + r.2)).1 0 13 - (mAt σ (B + r.2)).1 0 12).toInt64 ↔ r.1 ≤ e - r.2 := by
      rw [e12, e13, pk_sub (by omega), nI_l (by omega), pk_lLE (by omega) (by omega)]; omega
    have bad : (r.1 < 1 ∨ 100 < r.1 ∨ e - r.2 < r.1) → zCT zZM zmX10_wrong [.ref 0, .int (1 : Int32), .int (σ.1 0 12)] (mAt σ (B + r.2)) (zQr (fun r4 s3 => o_athrow zYM 2 (zQv K) QX (fun _ _ _ _ => False) [] [.ref r4] s3)) QX := by
      intro q
      rw [if_pos q] at h
      rw [hat]
      exact sp_throw (k := 1) hs1.1 h
    rw [c1, c100, ce]
    refine ⟨fun q => bad (by omega), fun q => ⟨fun q2 => bad (by omega), fun q2 => ⟨fun q3 => ?_, fun q3 => bad (by omega)⟩⟩⟩
    intro s7 e7 s8 e8
    rw [if_neg (by omega)] at h
    have hs7 : mSt τ s7 B b e r.2 := by rw [e7]; exact hs1.i _ (by unfold kpd; omega) (by omega)
    have hs8 : mSt τ s8 B b e r.2 := by rw [e8]; exact hs7.i _ (by unfold kpd; omega) (by omega)
    refine ⟨r.1, trivial, r.2, r.1, 0, by omega, by omega, by omega, by omega, rfl, hat, rfl, rfl, hs8, ?_, ?_, ?_, rfl, h⟩
    · rw [e8, e7]
      exact ((mOwn.rf.i _ (by simp)).i _ (by simp)).i _ (by simp)
    · rw [e8, zI1, if_neg (by omega), e7, zI1, if_pos ⟨rfl, rfl⟩, e12]
    · rw [e8, zI1, if_pos ⟨rfl, rfl⟩, lN_i]
