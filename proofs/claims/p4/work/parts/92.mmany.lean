/-! the typing of the instructions behind 252 -/
theorem mOps_9 {b : Nat → Nat} {e fr a : Nat} {hc : Bool} {x : mInsT} {z : Nat} (h : mOps b e hc 252 fr a = .ok (x, z)) : ∃ n u p, mU b e a = .ok n ∧ 8 ≤ n.1 ∧ n.1 ≤ 14 ∧ (if n.1 = 8 ∨ n.1 = 9 ∨ n.1 = 12 ∨ n.1 = 13 then mU b e n.2 else .ok (0, n.2)) = .ok u ∧
    (if n.1 = 8 ∨ n.1 = 11 ∨ n.1 = 12 then mNeed b e 0 u.2 else .ok u.2 : mE Nat) = .ok p ∧ (if n.1 = 10 ∨ n.1 = 14 then (mNeed b e 0 p).bind fun q => mNeed b e 0 q else .ok p : mE Nat) = .ok z ∧ x = (256 + n.1, u.1, []) ∧ (n.1 = 8 ∨ n.1 = 9 → hc = true) := by
  have k : mFollows 252 = 9 := rfl
  rw [mOps, if_neg (by omega), if_neg (by omega), if_neg (by omega), if_neg (by omega), if_neg (by omega), if_neg (by omega), if_neg (by omega), if_neg (by omega), if_neg (by omega), if_pos k] at h
  cases hn : mU b e a with
  | error q => rw [hn] at h; cases h
  | ok n =>
    rw [hn] at h
    have h : (if n.1 < 8 ∨ 14 < n.1 then .error (1, a)
    else if (n.1 = 8 ∨ n.1 = 9) ∧ hc = false then .error (1, fr)
    else (if n.1 = 8 ∨ n.1 = 9 ∨ n.1 = 12 ∨ n.1 = 13 then mU b e n.2 else .ok (0, n.2)).bind fun u =>
      (if n.1 = 8 ∨ n.1 = 11 ∨ n.1 = 12 then mNeed b e 0 u.2 else .ok u.2 : mE Nat).bind fun p =>
      (if n.1 = 10 ∨ n.1 = 14 then (mNeed b e 0 p).bind fun q => mNeed b e 0 q else .ok p : mE Nat).bind fun q => (.ok ((256 + n.1, u.1, []), q) : mE (mInsT × Nat))) = .ok (x, z) := h
    by_cases q1 : n.1 < 8 ∨ 14 < n.1
    · rw [if_pos q1] at h; cases h
    · rw [if_neg q1] at h
      by_cases q2 : (n.1 = 8 ∨ n.1 = 9) ∧ hc = false
      · rw [if_pos q2] at h; cases h
      · rw [if_neg q2] at h
        cases hu : (if n.1 = 8 ∨ n.1 = 9 ∨ n.1 = 12 ∨ n.1 = 13 then mU b e n.2 else .ok (0, n.2) : mE (Nat × Nat)) with
        | error q => rw [hu] at h; cases h
        | ok u =>
          rw [hu] at h
          have h : ((if n.1 = 8 ∨ n.1 = 11 ∨ n.1 = 12 then mNeed b e 0 u.2 else .ok u.2 : mE Nat).bind fun p =>
      (if n.1 = 10 ∨ n.1 = 14 then (mNeed b e 0 p).bind fun q => mNeed b e 0 q else .ok p : mE Nat).bind fun q => (.ok ((256 + n.1, u.1, []), q) : mE (mInsT × Nat))) = .ok (x, z) := h
          cases hp : (if n.1 = 8 ∨ n.1 = 11 ∨ n.1 = 12 then mNeed b e 0 u.2 else .ok u.2 : mE Nat) with
          | error q => rw [hp] at h; cases h
          | ok p =>
            rw [hp] at h
            have h : ((if n.1 = 10 ∨ n.1 = 14 then (mNeed b e 0 p).bind fun q => mNeed b e 0 q else .ok p : mE Nat).bind fun q => (.ok ((256 + n.1, u.1, []), q) : mE (mInsT × Nat))) = .ok (x, z) := h
            cases hz : (if n.1 = 10 ∨ n.1 = 14 then (mNeed b e 0 p).bind fun q => mNeed b e 0 q else .ok p : mE Nat) with
            | error q => rw [hz] at h; cases h
            | ok q =>
              rw [hz] at h
              cases h
              exact ⟨n, u, p, rfl, by omega, by omega, hu, hp, hz, rfl, fun q3 => by cases hc with | true => rfl | false => exact absurd ⟨q3, rfl⟩ q2⟩
def tM232 (n : Nat) (t : tT) : tT := if n = 9 then t else if n = 13 then t else tTurns 0 3 2 t
def tM207 (A : mA) (n : Nat) (t : tT) : tT := if n = 12 then tM232 n (tNeed (hasK A 1) t) else if n = 14 then tM232 n (tNeed (hasK A 1) t) else tM232 n t
def tM174 (A : mA) (n : Nat) (t : tT) : tT := if n = 8 then tM207 A n (tNeed (hasK A 2) t) else if n = 10 then tM207 A n (tNeed (hasK A 2) t) else if n = 11 then tM207 A n (tNeed (hasK A 2) t) else tM207 A n t
def tM138 (A : mA) (n k : Nat) (t : tT) : tT := if n = 12 then tM174 A n (tNeed (decide (k < (aE A).length)) t) else if n = 13 then tM174 A n (tNeed (decide (k < (aE A).length)) t) else tM174 A n t
def tMany (A : mA) (n k : Nat) (t : tT) : tT := if n = 8 then tM138 A n k (tNeed (decide (k < (aZ A).length)) t) else if n = 9 then tM138 A n k (tNeed (decide (k < (aZ A).length)) t) else tM138 A n k t
section Many
variable {τ σ s : zS} {B : Nat} {b : Nat → Nat} {e a n k : Nat} {t : tT} {A : mA} {K : zS → Prop} {QX : zS → Prop}
theorem sp_m232 (hn : n < 15) (hs : tSt τ σ s B b e a t) (hf : ¬ t.2.1 = []) (hl : t.1.length < 16000) (h : ∀ s', tSt τ σ s' B b e a (tM232 n t) → K s') : PX10_checkMany_232 (zQv K) QX (lN n) s := by
  have c9 : lN n = (9 : Int64) ↔ n = 9 := lN_eqB (b := 9) (by omega) (by decide)
  have c13 : lN n = (13 : Int64) ↔ n = 13 := lN_eqB (b := 13) (by omega) (by decide)
  unfold PX10_checkMany_232
  rw [c9, c13]
  unfold tM232 at h
  refine ⟨fun q => ?_, fun q => ⟨fun q2 => ?_, fun q2 => ?_⟩⟩
  · rw [if_pos q] at h; exact h s hs
  · rw [if_neg q, if_pos q2] at h; exact h s hs
  · rw [if_neg q, if_neg q2] at h; exact sp_turns (fr := 0) (n := 3) (to := 2) hs (by decide) (by decide) (by decide) hf hl h
theorem sp_m223 (hn : n < 15) (hr : mRep σ B A) (hs : tSt τ σ s B b e a t) (hf : ¬ t.2.1 = []) (hl : t.1.length < 16000) (h : ∀ s', tSt τ σ s' B b e a (tM232 n (tNeed (hasK A 1) t)) → K s') : PX10_checkMany_223 (zQv K) QX (lN n) s := by
  unfold PX10_checkMany_223
  refine sp_has (k := 1) (hs.rep hr) (Or.inl rfl) ?_
  exact sp_need hs rfl (fun s2 hs2 => sp_m232 hn hs2 hf hl h)
theorem sp_m207 (hn : n < 15) (hr : mRep σ B A) (hs : tSt τ σ s B b e a t) (hf : ¬ t.2.1 = []) (hl : t.1.length < 16000) (h : ∀ s', tSt τ σ s' B b e a (tM207 A n t) → K s') : PX10_checkMany_207 (zQv K) QX (lN n) s := by
  have c12 : lN n = (12 : Int64) ↔ n = 12 := lN_eqB (b := 12) (by omega) (by decide)
  have c14 : lN n = (14 : Int64) ↔ n = 14 := lN_eqB (b := 14) (by omega) (by decide)
  unfold PX10_checkMany_207
  rw [c12, c14]
  unfold tM207 at h
  refine ⟨fun q => ?_, fun q => ⟨fun q2 => ?_, fun q2 => ?_⟩⟩
  · rw [if_pos q] at h; exact sp_m223 hn hr hs hf hl h
  · rw [if_neg q, if_pos q2] at h; exact sp_m223 hn hr hs hf hl h
  · rw [if_neg q, if_neg q2] at h; exact sp_m232 hn hs hf hl h
theorem sp_m198 (hn : n < 15) (hr : mRep σ B A) (hs : tSt τ σ s B b e a t) (hf : ¬ t.2.1 = []) (hl : t.1.length < 16000) (h : ∀ s', tSt τ σ s' B b e a (tM207 A n (tNeed (hasK A 2) t)) → K s') : PX10_checkMany_198 (zQv K) QX (lN n) s := by
  unfold PX10_checkMany_198
  refine sp_has (k := 2) (hs.rep hr) (Or.inr rfl) ?_
  exact sp_need hs rfl (fun s2 hs2 => sp_m207 hn hr hs2 hf hl h)
theorem sp_m174 (hn : n < 15) (hr : mRep σ B A) (hs : tSt τ σ s B b e a t) (hf : ¬ t.2.1 = []) (hl : t.1.length < 16000) (h : ∀ s', tSt τ σ s' B b e a (tM174 A n t) → K s') : PX10_checkMany_174 (zQv K) QX (lN n) s := by
  have c8 : lN n = (8 : Int64) ↔ n = 8 := lN_eqB (b := 8) (by omega) (by decide)
  have c10 : lN n = (10 : Int64) ↔ n = 10 := lN_eqB (b := 10) (by omega) (by decide)
  have c11 : lN n = (11 : Int64) ↔ n = 11 := lN_eqB (b := 11) (by omega) (by decide)
  unfold PX10_checkMany_174
  rw [c8, c10, c11]
  unfold tM174 at h
  refine ⟨fun q => ?_, fun q => ⟨fun q2 => ?_, fun q2 => ⟨fun q3 => ?_, fun q3 => ?_⟩⟩⟩
  · rw [if_pos q] at h; exact sp_m198 hn hr hs hf hl h
  · rw [if_neg q, if_pos q2] at h; exact sp_m198 hn hr hs hf hl h
  · rw [if_neg q, if_neg q2, if_pos q3] at h; exact sp_m198 hn hr hs hf hl h
  · rw [if_neg q, if_neg q2, if_neg q3] at h; exact sp_m207 hn hr hs hf hl h
theorem sp_m154 (hn : n < 15) (hk : k < 2 ^ 35) (hr : mRep σ B A) (hs : tSt τ σ s B b e a t) (hf : ¬ t.2.1 = []) (hl : t.1.length < 16000) (h : ∀ s', tSt τ σ s' B b e a (tM174 A n (tNeed (decide (k < (aE A).length)) t)) → K s') : PX10_checkMany_154 (zQv K) QX (lN n) (lN k) s := by
  unfold PX10_checkMany_154
  have h9 := (hs.rep hr).2.2.2.2.2.2.2.2.1
  have c1 : (nI (aE A).length).toInt64 ≤ lN k ↔ (aE A).length ≤ k := by rw [nI_l (by have := h9.2.1; omega)]; exact lN_leB (by have := h9.2.1; omega) (by omega)
  rw [h9.1, c1]
  refine ⟨fun q => ?_, fun q => ?_⟩
  · rw [decide_eq_false (by omega)] at h
    exact sp_need (c := false) hs rfl (fun s2 hs2 => sp_m174 hn hr hs2 hf hl h)
  · rw [decide_eq_true (by omega)] at h
    exact sp_need (c := true) hs rfl (fun s2 hs2 => sp_m174 hn hr hs2 hf hl h)
theorem sp_m138 (hn : n < 15) (hk : k < 2 ^ 35) (hr : mRep σ B A) (hs : tSt τ σ s B b e a t) (hf : ¬ t.2.1 = []) (hl : t.1.length < 16000) (h : ∀ s', tSt τ σ s' B b e a (tM138 A n k t) → K s') : PX10_checkMany_138 (zQv K) QX (lN n) (lN k) s := by
  have c12 : lN n = (12 : Int64) ↔ n = 12 := lN_eqB (b := 12) (by omega) (by decide)
  have c13 : lN n = (13 : Int64) ↔ n = 13 := lN_eqB (b := 13) (by omega) (by decide)
  unfold PX10_checkMany_138
  rw [c12, c13]
  unfold tM138 at h
  refine ⟨fun q => ?_, fun q => ⟨fun q2 => ?_, fun q2 => ?_⟩⟩
  · rw [if_pos q] at h; exact sp_m154 hn hk hr hs hf hl h
  · rw [if_neg q, if_pos q2] at h; exact sp_m154 hn hk hr hs hf hl h
  · rw [if_neg q, if_neg q2] at h; exact sp_m174 hn hr hs hf hl h
theorem sp_m118 (hn : n < 15) (hk : k < 2 ^ 35) (hr : mRep σ B A) (hs : tSt τ σ s B b e a t) (hf : ¬ t.2.1 = []) (hl : t.1.length < 16000) (h : ∀ s', tSt τ σ s' B b e a (tM138 A n k (tNeed (decide (k < (aZ A).length)) t)) → K s') : PX10_checkMany_118 (zQv K) QX (lN n) (lN k) s := by
  unfold PX10_checkMany_118
  have h9 := (hs.rep hr).2.2.2.2.2.2.2.2.2.2.2
  have c1 : (nI (aZ A).length).toInt64 ≤ lN k ↔ (aZ A).length ≤ k := by rw [nI_l (by have := h9.2.1; omega)]; exact lN_leB (by have := h9.2.1; omega) (by omega)
  rw [h9.1, c1]
  refine ⟨fun q => ?_, fun q => ?_⟩
  · rw [decide_eq_false (by omega)] at h
    exact sp_need (c := false) hs rfl (fun s2 hs2 => sp_m138 hn hk hr hs2 hf hl h)
  · rw [decide_eq_true (by omega)] at h
    exact sp_need (c := true) hs rfl (fun s2 hs2 => sp_m138 hn hk hr hs2 hf hl h)
theorem sp_m102 (hn : n < 15) (hk : k < 2 ^ 35) (hr : mRep σ B A) (hs : tSt τ σ s B b e a t) (hf : ¬ t.2.1 = []) (hl : t.1.length < 16000) (h : ∀ s', tSt τ σ s' B b e a (tMany A n k t) → K s') : PX10_checkMany_102 (zQv K) QX (lN n) (lN k) s := by
  have c8 : lN n = (8 : Int64) ↔ n = 8 := lN_eqB (b := 8) (by omega) (by decide)
  have c9 : lN n = (9 : Int64) ↔ n = 9 := lN_eqB (b := 9) (by omega) (by decide)
  unfold PX10_checkMany_102
  rw [c8, c9]
  unfold tMany at h
  refine ⟨fun q => ?_, fun q => ⟨fun q2 => ?_, fun q2 => ?_⟩⟩
  · rw [if_pos q] at h; exact sp_m118 hn hk hr hs hf hl h
  · rw [if_neg q, if_pos q2] at h; exact sp_m118 hn hk hr hs hf hl h
  · rw [if_neg q, if_neg q2] at h; exact sp_m138 hn hk hr hs hf hl h
theorem sp_m76 {z : Nat} (hn : n < 15) (hk : k < 2 ^ 35) (hr : mRep σ B A) (hs : tSt τ σ s B b e a t) (hf : ¬ t.2.1 = []) (hl : t.1.length < 16000)
    (hz : (if n = 10 ∨ n = 14 then (mNeed b e 0 a).bind fun q => mNeed b e 0 q else .ok a : mE Nat) = .ok z) (h : ∀ s', tSt τ σ s' B b e z (tMany A n k t) → K s') : PX10_checkMany_76 (zQv K) QX (lN n) (lN k) s := by
  have c10 : lN n = (10 : Int64) ↔ n = 10 := lN_eqB (b := 10) (by omega) (by decide)
  have c14 : lN n = (14 : Int64) ↔ n = 14 := lN_eqB (b := 14) (by omega) (by decide)
  have two : (n = 10 ∨ n = 14) → PX10_checkMany_92 (zQv K) QX (lN n) (lN k) s := by
    intro q
    rw [if_pos q] at hz
    unfold PX10_checkMany_92
    cases hp : mNeed b e 0 a with
    | error r => rw [hp] at hz; cases hz
    | ok p =>
      rw [hp] at hz
      have hz : mNeed b e 0 p = .ok z := hz
      have p1 := mNeed_in hp
      have z1 := mNeed_in hz
      refine sp_needOctet (v := 0) hs.1 (by decide) ?_
      rw [hp, mW_ok]
      have hs1 := hs.at (a' := p) (by omega)
      refine sp_needOctet (v := 0) hs1.1 (by decide) ?_
      rw [hz, mW_ok]
      exact sp_m102 hn hk hr (hs1.at (a' := z) (by omega)) hf hl h
  unfold PX10_checkMany_76
  rw [c10, c14]
  refine ⟨fun q => two (Or.inl q), fun q => ⟨fun q2 => two (Or.inr q2), fun q2 => ?_⟩⟩
  rw [if_neg (by omega)] at hz
  cases hz
  exact sp_m102 hn hk hr hs hf hl h
/-- the octet behind, then the two -/
theorem sp_m71 {z p : Nat} (hn : n < 15) (hk : k < 2 ^ 35) (hr : mRep σ B A) (hs : tSt τ σ s B b e a t) (hf : ¬ t.2.1 = []) (hl : t.1.length < 16000) (hp : (if n = 8 ∨ n = 11 ∨ n = 12 then mNeed b e 0 a else .ok a : mE Nat) = .ok p)
    (hz : (if n = 10 ∨ n = 14 then (mNeed b e 0 p).bind fun q => mNeed b e 0 q else .ok p : mE Nat) = .ok z) (h : ∀ s', tSt τ σ s' B b e z (tMany A n k t) → K s') :
    (lN n = 8 → PX10_checkMany_71 (zQv K) QX (lN n) (lN k) s) ∧ (¬ lN n = 8 → (lN n = 11 → PX10_checkMany_71 (zQv K) QX (lN n) (lN k) s) ∧ (¬ lN n = 11 → (lN n = 12 → PX10_checkMany_71 (zQv K) QX (lN n) (lN k) s) ∧ (¬ lN n = 12 → PX10_checkMany_76 (zQv K) QX (lN n) (lN k) s))) := by
  have c8 : lN n = (8 : Int64) ↔ n = 8 := lN_eqB (b := 8) (by omega) (by decide)
  have c11 : lN n = (11 : Int64) ↔ n = 11 := lN_eqB (b := 11) (by omega) (by decide)
  have c12 : lN n = (12 : Int64) ↔ n = 12 := lN_eqB (b := 12) (by omega) (by decide)
  have one : (n = 8 ∨ n = 11 ∨ n = 12) → PX10_checkMany_71 (zQv K) QX (lN n) (lN k) s := by
    intro q
    rw [if_pos q] at hp
    have p1 := mNeed_in hp
    unfold PX10_checkMany_71
    refine sp_needOctet (v := 0) hs.1 (by decide) ?_
    rw [hp, mW_ok]
    exact sp_m76 hn hk hr (hs.at (a' := p) (by omega)) hf hl hz h
  rw [c8, c11, c12]
  refine ⟨fun q => one (Or.inl q), fun q => ⟨fun q2 => one (Or.inr (Or.inl q2)), fun q2 => ⟨fun q3 => one (Or.inr (Or.inr q3)), fun q3 => ?_⟩⟩⟩
  rw [if_neg (by omega)] at hp
  cases hp
  exact sp_m76 hn hk hr hs hf hl hz h
theorem sp_checkMany {fr z : Nat} {hc : Bool} {x : mInsT} (hr : mRep σ B A) (hs : tSt τ σ s B b e a t) (hf : ¬ t.2.1 = []) (hl : t.1.length < 16000) (hO : mOps b e hc 252 fr a = .ok (x, z)) (h : ∀ s', tSt τ σ s' B b e z (tMany A (x.1 - 256) x.2.1 t) → K s') : zCT zZM zmX10_checkMany [.ref 0, .ref 1] s (zQv K) QX := by
  obtain ⟨n, u, p, hn, h8, h14, hu, hp, hz, rfl, _⟩ := mOps_9 hO
  have h : ∀ s', tSt τ σ s' B b e z (tMany A n.1 u.1 t) → K s' := fun s' hs' => h s' (by show tSt τ σ s' B b e z (tMany A (256 + n.1 - 256) u.1 t); rw [Nat.add_sub_cancel_left]; exact hs')
  have n1 := mU_in hn hs.1.2.2.2.2.1
  have n2 : n.1 < 15 := by omega
  have hs1 := hs.at n1.2
  refine rX10_checkMany ?_
  unfold PX10_checkMany_0
  refine sp_u hs.1 ?_
  rw [hn, mW_ok]
  have c8 : lN n.1 = (8 : Int64) ↔ n.1 = 8 := lN_eqB (b := 8) (by omega) (by decide)
  have c9 : lN n.1 = (9 : Int64) ↔ n.1 = 9 := lN_eqB (b := 9) (by omega) (by decide)
  have c12 : lN n.1 = (12 : Int64) ↔ n.1 = 12 := lN_eqB (b := 12) (by omega) (by decide)
  have c13 : lN n.1 = (13 : Int64) ↔ n.1 = 13 := lN_eqB (b := 13) (by omega) (by decide)
  have one : (n.1 = 8 ∨ n.1 = 9 ∨ n.1 = 12 ∨ n.1 = 13) → PX10_checkMany_37 (zQv K) QX (lN n.1) (mAt s (B + n.2)) := by
    intro q
    rw [if_pos q] at hu
    have u1 := mU_in hu n1.2
    unfold PX10_checkMany_37
    refine sp_u hs1.1 ?_
    rw [hu, mW_ok]
    exact sp_m71 n2 (mU_lt hu) hr (hs1.at u1.2) hf hl hp hz h
  refine ⟨fun q => one (Or.inl (c8.1 q)), fun q => ⟨fun q2 => one (Or.inr (Or.inl (c9.1 q2))), fun q2 => ⟨fun q3 => one (Or.inr (Or.inr (Or.inl (c12.1 q3)))), fun q3 => ⟨fun q4 => one (Or.inr (Or.inr (Or.inr (c13.1 q4)))), fun q4 => ?_⟩⟩⟩⟩
  rw [c8] at q
  rw [c9] at q2
  rw [c12] at q3
  rw [c13] at q4
  rw [if_neg (by omega)] at hu
  cases hu
  exact sp_m71 (k := 0) n2 (by decide) hr hs1 hf hl hp hz h
end Many
