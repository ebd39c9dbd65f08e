/-! what the reference's module holds, and who may write where -/
theorem fa_or (a b : Nat) : nI a ||| nI b = nI (a ||| b) := by
  apply Int32.toBitVec_inj.1
  show BitVec.ofNat 32 a ||| BitVec.ofNat 32 b = BitVec.ofNat 32 (a ||| b)
  apply BitVec.eq_of_getLsbD_eq
  intro i hi
  simp [hi]
theorem fa_or_sum {a k : Nat} (b : Nat) (h : a < 2 ^ k) : nI (2 ^ k * b) ||| nI a = nI (2 ^ k * b + a) := by rw [fa_or, Nat.two_pow_add_eq_or_of_lt h]
theorem shI_s : ∀ n, n < 32 → ((nI n &&& 31).toBitVec.smod 32).toNat = n := by decide +kernel
theorem shI {t j : Nat} (hj : j < 32) (h : t * 2 ^ j < 2 ^ 32) : nI t <<< (nI j &&& (31 : Int32)) = nI (t * 2 ^ j) := pk_shlN _ j (shI_s j hj) h
/-- the section that may write a place; 0: the reader's own, 99: nobody -/
def zown (c i : Nat) : Nat :=
  if c = 0 then (if 10 ≤ i ∧ i ≤ 17 then 0 else if i = 18 ∨ i = 19 then 12 else 99)
  else if c = 1 then (if i = 2 then 1 else if i = 3 then 2 else if i = 4 then 3 else if i = 12 then 4 else if i = 13 then 5 else if i = 5 then 6 else if i = 6 then 7 else if i = 10 ∨ i = 11 then 8 else if i = 7 then 9 else if i = 9 then 10 else if i = 8 then 11 else 99)
  else if c = 19 then 1
  else if (20 ≤ c ∧ c ≤ 30) ∨ c = 55 ∨ c = 56 then 2
  else if c = 31 ∨ c = 32 then 3
  else if 14 ≤ c ∧ c ≤ 18 then (if i = 0 then 4 else 5)
  else if 33 ≤ c ∧ c ≤ 35 then 6
  else if 36 ≤ c ∧ c ≤ 41 then 7
  else if 42 ≤ c ∧ c ≤ 46 then 9
  else if 52 ≤ c ∧ c ≤ 54 ∨ c = 6 then 10
  else if 47 ≤ c ∧ c ≤ 51 then 11
  else 99
/-- only the reader's own and section k's places are written -/
def mF (k : Nat) (σ σ' : zS) : Prop := ∀ c i, ¬ zown c i = 0 → ¬ zown c i = k → σ'.1 c i = σ.1 c i ∧ σ'.2 c i = σ.2 c i
theorem mF.rf {k : Nat} {σ : zS} : mF k σ σ := fun _ _ _ _ => ⟨rfl, rfl⟩
theorem mF.trans {k : Nat} {σ σ' σ'' : zS} (h : mF k σ σ') (h2 : mF k σ' σ'') : mF k σ σ'' := fun c i a b => ⟨(h2 c i a b).1.trans (h c i a b).1, (h2 c i a b).2.trans (h c i a b).2⟩
theorem mF.i {k : Nat} {σ σ' : zS} (h : mF k σ σ') {c j : Nat} (x : Int32) (hz : zown c j = 0 ∨ zown c j = k) : mF k σ (zsI σ' c j x) := fun a i h0 hk => by
  refine ⟨?_, (h a i h0 hk).2⟩
  rw [zI1, if_neg (fun q => by rw [q.1, q.2] at h0 hk; rcases hz with z | z; exact h0 z; exact hk z)]
  exact (h a i h0 hk).1
theorem mF.l {k : Nat} {σ σ' : zS} (h : mF k σ σ') {c j : Nat} (x : Int64) (hz : zown c j = 0 ∨ zown c j = k) : mF k σ (zsL σ' c j x) := fun a i h0 hk => by
  refine ⟨(h a i h0 hk).1, ?_⟩
  rw [zL2, if_neg (fun q => by rw [q.1, q.2] at h0 hk; rcases hz with z | z; exact h0 z; exact hk z)]
  exact (h a i h0 hk).2
theorem mF.at {k : Nat} {σ σ' : zS} (h : mF k σ σ') (x : Nat) : mF k σ (mAt σ' x) := h.i _ (Or.inl rfl)
theorem mF.of0 {k : Nat} {σ σ' : zS} (h : mF 0 σ σ') : mF k σ σ' := fun c i a _ => h c i a a
theorem mOwn.f {l : List Nat} {k : Nat} {σ σ' : zS} (h : mOwn l σ σ') (hl : ∀ i ∈ l, zown 0 i = 0) : mF k σ σ' := fun c i a _ => by
  have q : ¬ (c = 0 ∧ i ∈ l) := fun z => a (by rw [z.1]; exact hl i z.2)
  exact ⟨h.1 c i q, h.2 c i q⟩
/-- section k's places are as they were -/
def mQ (k : Nat) (σ σ' : zS) : Prop := ∀ c i, zown c i = k → σ'.1 c i = σ.1 c i ∧ σ'.2 c i = σ.2 c i
theorem mF.q {k n : Nat} {σ σ' : zS} (h : mF k σ σ') (h0 : ¬ n = 0) (hk : ¬ n = k) : mQ n σ σ' := fun c i e => h c i (by rw [e]; exact h0) (by rw [e]; exact hk)
def psV : List Nat → Nat
  | [] => 0
  | x :: r => x + 2 * psV r
theorem psV_app (l : List Nat) (t : Nat) : psV (l ++ [t]) = psV l + t * 2 ^ l.length := by
  induction l with
  | nil => simp [psV]
  | cons x r ih =>
    simp only [List.cons_append, psV, ih, List.length_cons, Nat.pow_succ]
    have : t * (2 ^ r.length * 2) = 2 * (t * 2 ^ r.length) := by rw [← Nat.mul_assoc, Nat.mul_comm]
    omega
theorem psV_lt {l : List Nat} (h : ∀ x ∈ l, x ≤ 1) : psV l < 2 ^ l.length := by
  induction l with
  | nil => simp [psV]
  | cons x r ih =>
    have h1 := h x List.mem_cons_self
    have h2 := ih (fun y hy => h y (List.mem_cons_of_mem _ hy))
    simp only [psV, List.length_cons, Nat.pow_succ]
    omega
def sigC (s : mSigT) : Nat := s.1.length + 32 * psV s.1 + s.2 * 2 ^ 21
def r1 (σ : zS) (l : List mSigT) : Prop := σ.1 1 2 = nI l.length ∧ l.length ≤ 64 ∧ (∀ s ∈ l, s.1.length ≤ 16 ∧ (∀ x ∈ s.1, x ≤ 1) ∧ s.2 ≤ 2) ∧ ∀ i, i < l.length → σ.1 19 i = nI (sigC (l.getD i ([], 0)))
def optL (o : Option Nat) : Int64 := match o with
  | some n => lN n
  | none => -1
def cntK (k : Nat) (l : List mImpT) : Nat := (l.filter (fun x => x.2.1 == k)).length
/-- the places in l of the imports of kind k -/
def idxK (k : Nat) : Nat → List mImpT → List Nat
  | _, [] => []
  | n, x :: r => if x.2.1 = k then n :: idxK k (n + 1) r else idxK k (n + 1) r
def r2 (σ : zS) (B : Nat) (l : List mImpT) : Prop := σ.1 1 3 = nI l.length ∧ l.length ≤ 32 ∧
  (∀ i, i < l.length → ∀ x, l[i]? = some x → x.2.1 ≤ 3 ∧ x.2.2.1 < 16000 ∧ x.1 < 16000 ∧ σ.1 27 i = nI (B + x.1) ∧ σ.1 24 i = nI x.2.1 ∧ σ.1 26 i = nI (B + x.2.2.1) ∧
    (x.2.1 = 0 → x.2.2.2.1 < 2 ^ 35 ∧ σ.2 25 i = lN x.2.2.2.1) ∧ (x.2.1 = 3 → x.2.2.2.1 ≤ 1 ∧ x.2.2.2.2.1 ≤ 1 ∧ σ.2 25 i = lN x.2.2.2.1 ∧ σ.1 28 i = nI x.2.2.2.2.1) ∧
    (x.2.1 = 1 ∨ x.2.1 = 2 → x.2.2.2.2.2.1 < 2 ^ 35 ∧ (∀ n, x.2.2.2.2.2.2 = some n → n < 2 ^ 35) ∧ σ.2 29 i = lN x.2.2.2.2.2.1 ∧ σ.2 30 i = optL x.2.2.2.2.2.2)) ∧
  (∀ k, k < 4 → σ.1 55 k = nI (idxK k 0 l).length ∧ ∀ j, j < (idxK k 0 l).length → σ.1 56 (k * 32 + j) = nI ((idxK k 0 l).getD j 0))
def r3 (σ : zS) (B : Nat) (l : List mFnT) : Prop := σ.1 1 4 = nI l.length ∧ l.length ≤ 64 ∧ ∀ i x, l[i]? = some x → x.1 < 16000 ∧ x.2 < 2 ^ 35 ∧ σ.1 32 i = nI (B + x.1) ∧ σ.2 31 i = lN x.2
def limOk (x : mTabT) : Prop := x.1 < 16000 ∧ x.2.1 < 16000 ∧ x.2.2.1 < 2 ^ 35 ∧ ∀ n, x.2.2.2 = some n → n < 2 ^ 35
/-- own tables (w = 0) or memories (w = 1): how many, the first one's limits, where the first two stand -/
def r45 (w : Nat) (σ : zS) (B : Nat) (l : List mTabT) : Prop := σ.1 1 (12 + w) = nI l.length ∧ l.length ≤ 16000 ∧
  (∀ x, l[0]? = some x → limOk x ∧ σ.2 14 w = lN x.2.2.1 ∧ σ.2 15 w = optL x.2.2.2 ∧ σ.1 16 w = nI (B + x.2.1) ∧ σ.1 18 w = nI (B + x.1)) ∧ (∀ x, l[1]? = some x → x.1 < 16000 ∧ σ.1 17 w = nI (B + x.1))
def r6 (σ : zS) (B : Nat) (l : List mGlT) : Prop := σ.1 1 5 = nI l.length ∧ l.length ≤ 32 ∧ ∀ i x, l[i]? = some x → x.1 ≤ 1 ∧ x.2.1 ≤ 1 ∧ x.2.2 < 16000 ∧ σ.1 33 i = nI x.1 ∧ σ.1 34 i = nI x.2.1 ∧ σ.1 35 i = nI (B + x.2.2)
def r7 (σ : zS) (B : Nat) (l : List mExT) : Prop := σ.1 1 6 = nI l.length ∧ l.length ≤ 64 ∧ ∀ i x, l[i]? = some x → x.1 < 16000 ∧ x.2.1 + x.2.2.1 ≤ 16000 ∧ x.2.2.2.1 ≤ 3 ∧ x.2.2.2.2.1 < 16000 ∧ x.2.2.2.2.2 < 2 ^ 35 ∧
  σ.1 38 i = nI (B + x.1) ∧ σ.1 36 i = nI (B + x.2.1) ∧ σ.1 37 i = nI x.2.2.1 ∧ σ.1 39 i = nI x.2.2.2.1 ∧ σ.1 41 i = nI (B + x.2.2.2.2.1) ∧ σ.2 40 i = lN x.2.2.2.2.2
def r8 (σ : zS) (B : Nat) (o : Option (Nat × Nat)) : Prop := match o with
  | none => σ.1 1 10 = -1
  | some x => x.1 < 16000 ∧ σ.1 1 10 = nI (min x.2 1000000) ∧ σ.1 1 11 = nI (B + x.1)
/-- a row of numbers that stand one behind another from a on -/
def mChain (b : Nat → Nat) (E : Nat) : Nat → List (Nat × Nat) → Nat → Prop
  | a, [], z => a = z
  | a, x :: r, z => ∃ a', x.1 = a ∧ mU b E a = .ok (x.2, a') ∧ mChain b E a' r z
def r9 (σ : zS) (B : Nat) (l : List mElT) : Prop := σ.1 1 7 = nI l.length ∧ l.length ≤ 32 ∧ ∀ i x, l[i]? = some x → x.1 < 16000 ∧ (x.2.1 = 0 ∨ x.2.1 = 1 ∨ x.2.1 = 3) ∧ x.2.2.1 < 16000 ∧ x.2.2.2.1 ≤ 16000 ∧ x.2.2.2.2.length ≤ 256 ∧
  σ.1 43 i = nI (B + x.1) ∧ σ.1 42 i = nI x.2.1 ∧ (x.2.1 = 0 → σ.1 44 i = nI (B + x.2.2.1)) ∧ σ.1 45 i = nI (B + x.2.2.2.1) ∧ σ.1 46 i = nI x.2.2.2.2.length
def r12 (σ : zS) (o : Option Nat) : Prop := match o with
  | none => σ.1 0 18 = 0 ∧ σ.2 0 19 = 0
  | some n => σ.1 0 18 = 1 ∧ n < 2 ^ 35 ∧ σ.2 0 19 = lN n
def r10 (σ : zS) (B : Nat) (l : List mBdT) : Prop := σ.1 1 9 = nI l.length ∧ l.length ≤ 16000 ∧ ∀ i x, i < 64 → l[i]? = some x → x.1 ≤ 16000 ∧ x.2.1 ≤ 16000 ∧ x.2.2.1 ≤ 16000 ∧ σ.1 52 i = nI (B + x.1) ∧ σ.1 53 i = nI (B + x.2.1) ∧ σ.1 54 i = nI (B + x.2.2.1)
def r11 (σ : zS) (B : Nat) (l : List mDtT) : Prop := σ.1 1 8 = nI l.length ∧ l.length ≤ 32 ∧ ∀ i x, l[i]? = some x → x.1 < 16000 ∧ x.2.1 ≤ 1 ∧ x.2.2 < 16000 ∧ σ.1 48 i = nI (B + x.1) ∧ σ.1 47 i = nI x.2.1 ∧ (x.2.1 = 0 → σ.1 49 i = nI (B + x.2.2))
/-- what a state holds of a module -/
def mRep (σ : zS) (B : Nat) (A : mA) : Prop := r1 σ (aS A) ∧ r2 σ B (aI A) ∧ r3 σ B (aF A) ∧ r45 0 σ B (aT A) ∧ r45 1 σ B (aM A) ∧ r6 σ B (aG A) ∧ r7 σ B (aX A) ∧ r8 σ B (aB A) ∧ r9 σ B (aE A) ∧ r12 σ (aC A) ∧ r10 σ B (aD A) ∧ r11 σ B (aZ A)
theorem r1_q {σ σ' : zS} {l : List mSigT} (h : r1 σ l) (q : mQ 1 σ σ') : r1 σ' l := ⟨by rw [(q 1 2 rfl).1]; exact h.1, h.2.1, h.2.2.1, fun i hi => by rw [(q 19 i rfl).1]; exact h.2.2.2 i hi⟩
theorem r2_q {σ σ' : zS} {B : Nat} {l : List mImpT} (h : r2 σ B l) (q : mQ 2 σ σ') : r2 σ' B l := by
  refine ⟨by rw [(q 1 3 rfl).1]; exact h.1, h.2.1, fun i hi x hx => ?_, fun k hk => ?_⟩
  · rw [(q 27 i rfl).1, (q 24 i rfl).1, (q 26 i rfl).1, (q 25 i rfl).2, (q 28 i rfl).1, (q 29 i rfl).2, (q 30 i rfl).2]
    exact h.2.2.1 i hi x hx
  · rw [(q 55 k rfl).1]
    exact ⟨(h.2.2.2 k hk).1, fun j hj => by rw [(q 56 _ rfl).1]; exact (h.2.2.2 k hk).2 j hj⟩
theorem r3_q {σ σ' : zS} {B : Nat} {l : List mFnT} (h : r3 σ B l) (q : mQ 3 σ σ') : r3 σ' B l := ⟨by rw [(q 1 4 rfl).1]; exact h.1, h.2.1, fun i x hx => by rw [(q 32 i rfl).1, (q 31 i rfl).2]; exact h.2.2 i x hx⟩
theorem r4_q {σ σ' : zS} {B : Nat} {l : List mTabT} (h : r45 0 σ B l) (q : mQ 4 σ σ') : r45 0 σ' B l :=
  ⟨by rw [(q 1 12 rfl).1]; exact h.1, h.2.1, fun x hx => by rw [(q 14 0 rfl).2, (q 15 0 rfl).2, (q 16 0 rfl).1, (q 18 0 rfl).1]; exact h.2.2.1 x hx, fun x hx => by rw [(q 17 0 rfl).1]; exact h.2.2.2 x hx⟩
theorem r5_q {σ σ' : zS} {B : Nat} {l : List mTabT} (h : r45 1 σ B l) (q : mQ 5 σ σ') : r45 1 σ' B l :=
  ⟨by rw [(q 1 13 rfl).1]; exact h.1, h.2.1, fun x hx => by rw [(q 14 1 rfl).2, (q 15 1 rfl).2, (q 16 1 rfl).1, (q 18 1 rfl).1]; exact h.2.2.1 x hx, fun x hx => by rw [(q 17 1 rfl).1]; exact h.2.2.2 x hx⟩
theorem r6_q {σ σ' : zS} {B : Nat} {l : List mGlT} (h : r6 σ B l) (q : mQ 6 σ σ') : r6 σ' B l := ⟨by rw [(q 1 5 rfl).1]; exact h.1, h.2.1, fun i x hx => by rw [(q 33 i rfl).1, (q 34 i rfl).1, (q 35 i rfl).1]; exact h.2.2 i x hx⟩
theorem r7_q {σ σ' : zS} {B : Nat} {l : List mExT} (h : r7 σ B l) (q : mQ 7 σ σ') : r7 σ' B l := ⟨by rw [(q 1 6 rfl).1]; exact h.1, h.2.1, fun i x hx => by rw [(q 36 i rfl).1, (q 37 i rfl).1, (q 38 i rfl).1, (q 39 i rfl).1, (q 41 i rfl).1, (q 40 i rfl).2]; exact h.2.2 i x hx⟩
theorem r8_q {σ σ' : zS} {B : Nat} {o : Option (Nat × Nat)} (h : r8 σ B o) (q : mQ 8 σ σ') : r8 σ' B o := by
  cases o with
  | none => show σ'.1 1 10 = -1; rw [(q 1 10 rfl).1]; exact h
  | some x => show _ ∧ _ ∧ _; rw [(q 1 10 rfl).1, (q 1 11 rfl).1]; exact h
theorem r9_q {σ σ' : zS} {B : Nat} {l : List mElT} (h : r9 σ B l) (q : mQ 9 σ σ') : r9 σ' B l := ⟨by rw [(q 1 7 rfl).1]; exact h.1, h.2.1, fun i x hx => by rw [(q 42 i rfl).1, (q 43 i rfl).1, (q 44 i rfl).1, (q 45 i rfl).1, (q 46 i rfl).1]; exact h.2.2 i x hx⟩
theorem r12_q {σ σ' : zS} {o : Option Nat} (h : r12 σ o) (q : mQ 12 σ σ') : r12 σ' o := by
  cases o with
  | none => show _ ∧ _; rw [(q 0 18 rfl).1, (q 0 19 rfl).2]; exact h
  | some x => show _ ∧ _ ∧ _; rw [(q 0 18 rfl).1, (q 0 19 rfl).2]; exact h
theorem r10_q {σ σ' : zS} {B : Nat} {l : List mBdT} (h : r10 σ B l) (q : mQ 10 σ σ') : r10 σ' B l := ⟨by rw [(q 1 9 rfl).1]; exact h.1, h.2.1, fun i x hi hx => by rw [(q 52 i rfl).1, (q 53 i rfl).1, (q 54 i rfl).1]; exact h.2.2 i x hi hx⟩
theorem r11_q {σ σ' : zS} {B : Nat} {l : List mDtT} (h : r11 σ B l) (q : mQ 11 σ σ') : r11 σ' B l := ⟨by rw [(q 1 8 rfl).1]; exact h.1, h.2.1, fun i x hx => by rw [(q 47 i rfl).1, (q 48 i rfl).1, (q 49 i rfl).1]; exact h.2.2 i x hx⟩
