/-! the reference's reading methods against the parser -/
theorem zI1 (σ : zS) (c j : Nat) (x : Int32) (a i : Nat) : (zsI σ c j x).1 a i = if a = c ∧ i = j then x else σ.1 a i := rfl
theorem zI2 (σ : zS) (c j : Nat) (x : Int32) : (zsI σ c j x).2 = σ.2 := rfl
theorem zL1 (σ : zS) (c j : Nat) (x : Int64) : (zsL σ c j x).1 = σ.1 := rfl
theorem zL2 (σ : zS) (c j : Nat) (x : Int64) (a i : Nat) : (zsL σ c j x).2 a i = if a = c ∧ i = j then x else σ.2 a i := rfl
theorem zII (σ : zS) (c j : Nat) (x y : Int32) : zsI (zsI σ c j x) c j y = zsI σ c j y := by
  refine Prod.ext ?_ rfl
  funext a i
  simp only [zI1]
  split <;> simp_all
/-- what reading a module must leave alone -/
def kpd (c j : Nat) : Prop := c = 2 ∨ c = 4 ∨ c = 5 ∨ 57 ≤ c ∨ (c = 0 ∧ (j = 2 ∨ j = 5 ∨ j = 6 ∨ j = 7)) ∨ (c = 1 ∧ (j = 0 ∨ j = 1))
def mKeep (τ σ : zS) : Prop := ∀ c j, kpd c j → σ.1 c j = τ.1 c j ∧ σ.2 c j = τ.2 c j
theorem mKeep.rf {τ : zS} : mKeep τ τ := fun _ _ _ => ⟨rfl, rfl⟩
theorem mKeep.trans {τ σ ρ : zS} (h : mKeep τ σ) (h2 : mKeep σ ρ) : mKeep τ ρ := fun c j k => ⟨(h2 c j k).1.trans (h c j k).1, (h2 c j k).2.trans (h c j k).2⟩
theorem mKeep.i {τ σ : zS} (h : mKeep τ σ) {c j : Nat} (x : Int32) (hk : ¬ kpd c j) : mKeep τ (zsI σ c j x) := fun a i k => by
  refine ⟨?_, (h a i k).2⟩
  rw [zI1, if_neg (fun q => hk (by rw [← q.1, ← q.2]; exact k))]
  exact (h a i k).1
theorem mKeep.l {τ σ : zS} (h : mKeep τ σ) {c j : Nat} (x : Int64) (hk : ¬ kpd c j) : mKeep τ (zsL σ c j x) := fun a i k => by
  refine ⟨(h a i k).1, ?_⟩
  rw [zL2, if_neg (fun q => hk (by rw [← q.1, ← q.2]; exact k))]
  exact (h a i k).2
/-- thrown: the fault and its place, and what is kept -/
def mThr (τ σ : zS) (B k p : Nat) : Prop := σ.1 0 10 = nI k ∧ σ.1 0 11 = nI (B + p) ∧ mKeep τ σ
def mEr (τ : zS) (B : Nat) (QX : zS → Prop) : Nat → Nat → Prop := fun k p => ∀ σ, mThr τ σ B k p → QX σ
/-- reading stands at a, within e, in a module that begins at B -/
def mSt (τ σ : zS) (B : Nat) (b : Nat → Nat) (e a : Nat) : Prop :=
  mKeep τ σ ∧ (∀ j, j < 16000 → b j < 256 ∧ σ.1 4 (B + j) = sb_b (b j)) ∧ σ.1 0 12 = nI (B + a) ∧ σ.1 0 13 = nI (B + e) ∧ a ≤ e ∧ e ≤ 16000 ∧ B ≤ 16000
def mAt (σ : zS) (x : Nat) : zS := zsI σ 0 12 (nI x)
theorem mAt_mAt (σ : zS) (x y : Nat) : mAt (mAt σ x) y = mAt σ y := zII σ 0 12 _ _
theorem kpd_at : ¬ kpd 0 12 := by unfold kpd; omega
theorem mSt.at {τ σ : zS} {B : Nat} {b : Nat → Nat} {e a a' : Nat} (h : mSt τ σ B b e a) (ha : a' ≤ e) : mSt τ (mAt σ (B + a')) B b e a' :=
  ⟨h.1.i _ kpd_at, fun j hj => by rw [mAt, zI1, if_neg (by omega)]; exact h.2.1 j hj, by rw [mAt, zI1, if_pos ⟨rfl, rfl⟩], by rw [mAt, zI1, if_neg (by omega)]; exact h.2.2.2.1, ha, h.2.2.2.2.2⟩
/-- another place is written -/
theorem mSt.i {τ σ : zS} {B : Nat} {b : Nat → Nat} {e a : Nat} (h : mSt τ σ B b e a) {c j : Nat} (x : Int32) (hk : ¬ kpd c j) (h2 : ¬ (c = 0 ∧ (j = 12 ∨ j = 13))) : mSt τ (zsI σ c j x) B b e a :=
  ⟨h.1.i _ hk, fun i hi => by
      rw [zI1, if_neg (fun q => hk (by rw [← q.1]; exact Or.inr (Or.inl rfl)))]; exact h.2.1 i hi,
    by rw [zI1, if_neg (by omega)]; exact h.2.2.1, by rw [zI1, if_neg (by omega)]; exact h.2.2.2.1, h.2.2.2.2⟩
theorem mSt.l {τ σ : zS} {B : Nat} {b : Nat → Nat} {e a : Nat} (h : mSt τ σ B b e a) {c j : Nat} (x : Int64) (hk : ¬ kpd c j) : mSt τ (zsL σ c j x) B b e a :=
  ⟨h.1.l _ hk, h.2.1, h.2.2.1, h.2.2.2.1, h.2.2.2.2⟩
theorem mThr_of {τ σ : zS} {B k p : Nat} (h : mKeep τ σ) : mThr τ (zsI (zsI σ 0 10 (nI k)) 0 11 (nI (B + p))) B k p :=
  ⟨by rw [zI1, if_neg (by omega), zI1, if_pos ⟨rfl, rfl⟩], by rw [zI1, if_pos ⟨rfl, rfl⟩], (h.i _ (by unfold kpd; omega)).i _ (by unfold kpd; omega)⟩
theorem sp_throw {τ σ : zS} {Q : Option Value → zS → Prop} {QX : zS → Prop} {tr : Nat → zKK} {B k p : Nat} (hk : mKeep τ σ) (h : mEr τ B QX k p) :
    zCT zZM zmX10_wrong [.ref 0, .int (nI k), .int (nI (B + p))] σ (zQr (fun r s => o_athrow zYM 2 Q QX tr [] [.ref r] s)) QX := by
  refine rX10_wrong ?_
  intro s1 h1 s2 h2
  subst h1 h2
  exact h _ (mThr_of hk)
theorem mByte {b : Nat} (h : b < 256) : sb_b b &&& 255 = nI b := (sb_byte b h).1
theorem sp_octet {τ σ : zS} {B : Nat} {b : Nat → Nat} {e a : Nat} {K : Int32 → zS → Prop} {QX : zS → Prop} (hs : mSt τ σ B b e a)
    (h : mW (mOct b e a) (fun r => K (nI r.1) (mAt σ (B + r.2))) (mEr τ B QX)) : zCT zZM zmX10_octet [.ref 0] σ (zQi K) QX := by
  refine rX10_octet ?_
  obtain ⟨hk, hb, hat, hen, hae, he, hB⟩ := id hs
  unfold PX10_octet_0
  refine ⟨fun hc => ?_, fun hc => ?_⟩
  · rw [hat, hen, nI_eq (by omega) (by omega)] at hc
    rw [mOct, if_neg (by omega)] at h
    rw [hen]
    exact sp_throw hk h
  · rw [hat, hen, nI_eq (by omega) (by omega)] at hc
    rw [mOct, if_pos (by omega)] at h
    intro s3 h3
    have e3 : s3 = mAt σ (B + (a + 1)) := by rw [h3, hat]; show zsI σ 0 12 (nI (B + a) + 1) = _; rw [nI_1]; rfl
    have hi : (s3.1 0 12) - (1 : Int32) = nI (B + a) := by rw [h3, zI1, if_pos ⟨rfl, rfl⟩, hat]; exact Int32.add_sub_cancel _ _
    rw [hi]
    refine ⟨vp_in_nI (by omega) (by decide), ?_⟩
    have hv : s3.1 4 (nI (B + a)).toNatClampNeg = sb_b (b a) := by
      rw [nI_clamp (by omega), e3, mAt, zI1, if_neg (by omega)]; exact (hb a (by omega)).2
    rw [hv]
    have h9 : sb_b (b a) &&& (255 : Int32) = nI (b a) := mByte (hb a (by omega)).1
    rw [h9, e3]
    exact h
theorem sp_needOctet {τ σ : zS} {B : Nat} {b : Nat → Nat} {e a v : Nat} {K : zS → Prop} {QX : zS → Prop} (hs : mSt τ σ B b e a) (hv : v < 256)
    (h : mW (mNeed b e v a) (fun r => K (mAt σ (B + r))) (mEr τ B QX)) : zCT zZM zmX10_needOctet [.ref 0, .int (nI v)] σ (zQv K) QX := by
  refine rX10_needOctet ?_
  obtain ⟨hk, hb, hat, hen, hae, he, hB⟩ := id hs
  unfold PX10_needOctet_0
  unfold mNeed at h
  rw [mW_bind] at h
  refine sp_octet hs (mW_mono h (fun r hr h => ?_) (fun k p _ h => h))
  obtain ⟨h1, rfl⟩ := mOct_in hr
  have hba := (hb a (by omega)).1
  rw [mW_ite] at h
  refine ⟨fun hc => ?_, fun hc => ?_⟩
  · rw [nI_eq (by omega) (by omega)] at hc
    rw [if_pos hc] at h
    exact h
  · rw [nI_eq (by omega) (by omega)] at hc
    rw [if_neg hc] at h
    rw [hat]
    exact sp_throw ((hs.at (by omega)).1) h
theorem mStep {x k v : Nat} (hx : x < 256) (hk : k < 9) (hv : v < 2 ^ (7 * k)) : lN v ||| (((nI x &&& (127 : Int32)).toInt64) <<< ((((7 : Int32) * nI k)).toInt64 &&& 63)) = lN (v + x % 128 * 2 ^ (7 * k)) := by
  have e1 : nI x &&& (127 : Int32) = nI (x % 128) := pk_andN (k := 7) (by omega) (by decide)
  have e2 : (7 : Int32) * nI k = nI (7 * k) := pk_mul 7 k
  have hm : x % 128 < 128 := Nat.mod_lt _ (by decide)
  rw [e1, e2, nI_l (by omega), wb_shl _ (by omega)]
  refine g_or' rfl hv ?_
  have h1 : x % 128 * 2 ^ (7 * k) ≤ 127 * 2 ^ (7 * k) := Nat.mul_le_mul_right _ (by omega)
  have h2 : 2 ^ (7 * k) ≤ 2 ^ 56 := Nat.pow_le_pow_right (by decide) (by omega)
  omega
theorem sp_u {τ σ : zS} {B : Nat} {b : Nat → Nat} {e a : Nat} {K : Int64 → zS → Prop} {QX : zS → Prop} (hs : mSt τ σ B b e a)
    (h : mW (mU b e a) (fun r => K (lN r.1) (mAt σ (B + r.2))) (mEr τ B QX)) : zCT zZM zmX10_u [.ref 0] σ (zQl K) QX := by
  refine rX10_u (fun m x1 x2 x4 s => ∃ k v a', m + k = 5 ∧ x1 = nI (B + a) ∧ x2 = lN v ∧ v < 2 ^ (7 * k) ∧ x4 = nI k ∧ mSt τ s B b e a' ∧ s = mAt σ (B + a') ∧ mW (mUk b e a m k v a') (fun r => K (lN r.1) (mAt σ (B + r.2))) (mEr τ B QX)) ?_ ?_
  · rintro m x1 x2 x4 s ⟨k, v, a', hmk, rfl, rfl, hv, rfl, hs', rfl, hw⟩
    obtain ⟨hk, hb, hat, hen, hae, he, hB⟩ := id hs'
    unfold PX10_u_10
    refine ⟨fun hc => ?_, fun hc => ?_⟩
    · have hk5 : 5 ≤ k := (nI_leI (a := 5) (by decide) (by omega)).mp hc
      have hm : m = 0 := by omega
      subst hm
      exact hw
    · have hk5 : ¬ 5 ≤ k := fun q => hc ((nI_leI (a := 5) (by decide) (by omega)).mpr q)
      obtain ⟨m, rfl⟩ : ∃ q, m = q + 1 := ⟨m - 1, by omega⟩
      unfold mUk at hw
      rw [mW_bind] at hw
      refine sp_octet hs' (mW_mono hw (fun r hr hw => ?_) (fun k p _ h => h))
      obtain ⟨h1, rfl⟩ := mOct_in hr
      have hba := (hb a' (by omega)).1
      rw [mAt_mAt]
      simp only [mStep hba (show k < 9 by omega) hv]
      have hnext : ∀ s', s' = mAt σ (B + (a' + 1)) → ¬ b a' < 128 → mW (mUk b e a m (k + 1) (v + b a' % 128 * 2 ^ (7 * k)) (a' + 1)) (fun r => K (lN r.1) (mAt σ (B + r.2))) (mEr τ B QX) →
          ∃ n', zlt n' (some (m + 1)) ∧ ∃ k' v' a'', n' + k' = 5 ∧ True ∧ lN (v + b a' % 128 * 2 ^ (7 * k)) = lN v' ∧ v' < 2 ^ (7 * k') ∧ nI k + 1 = nI k' ∧ mSt τ s' B b e a'' ∧ s' = mAt σ (B + a'') ∧ mW (mUk b e a n' k' v' a'') (fun r => K (lN r.1) (mAt σ (B + r.2))) (mEr τ B QX) := by
        intro s' es _ hw
        subst es
        refine ⟨m, Nat.lt_succ_self m, k + 1, _, a' + 1, by omega, trivial, rfl, ?_, nI_1 k, hs.at (by omega), rfl, hw⟩
        have hm : b a' % 128 < 128 := Nat.mod_lt _ (by decide)
        have h7 : 2 ^ (7 * (k + 1)) = 128 * 2 ^ (7 * k) := by rw [show 7 * (k + 1) = 7 * k + 7 by omega, Nat.pow_add]; omega
        rw [h7]
        have : b a' % 128 * 2 ^ (7 * k) ≤ 127 * 2 ^ (7 * k) := Nat.mul_le_mul_right _ (by omega)
        omega
      have c4 : nI k = (4 : Int32) ↔ k = 4 := nI_eq (b := 4) (by omega) (by decide)
      have c15 : nI (b a') ≤ (15 : Int32) ↔ b a' ≤ 15 := nI_leI (b := 15) (by omega) (by decide)
      have c128 : (128 : Int32) ≤ nI (b a') ↔ 128 ≤ b a' := nI_leI (a := 128) (by decide) (by omega)
      simp only [c4, c15, c128]
      rw [mW_ite] at hw
      refine ⟨fun hc4 => ⟨fun h15 => ⟨fun h128 => absurd h128 (by omega), fun h128 => ?_⟩, fun h15 => ?_⟩, fun hc4 => ⟨fun h128 => ?_, fun h128 => ?_⟩⟩
      · rw [if_neg (by omega), if_pos (by omega)] at hw
        exact hw
      · rw [if_pos (by omega)] at hw
        exact sp_throw (hs.at (by omega)).1 hw
      · rw [if_neg (by omega), if_neg (by omega)] at hw
        exact hnext _ rfl (by omega) hw
      · rw [if_neg (by omega), if_pos (by omega)] at hw
        exact hw
  · unfold PX10_u_0
    refine ⟨5, trivial, 0, 0, a, rfl, hs.2.2.1, rfl, by decide, rfl, hs, ?_, h⟩
    refine Prod.ext ?_ rfl
    funext c j
    show _ = (zsI σ 0 12 _).1 c j
    rw [zI1]
    split
    · rename_i q; rw [q.1, q.2]; exact hs.2.2.1
    · rfl
