/-! the reference reads a body's instructions -/
abbrev mTr : Nat → Nat → Prop := fun _ _ => True
theorem mW_in {α : Type} {x : mE α} {K : α → Prop} (h : ∀ r, x = .ok r → K r) : mW x K mTr := by
  cases x with
  | error q => trivial
  | ok r => exact h r rfl
theorem mW_get {α : Type} {x : mE α} {K : α → Prop} {E : Nat → Nat → Prop} {r : α} (h : mW x K E) (e : x = .ok r) : K r := by rw [e] at h; exact h
theorem mOps_in {b : Nat → Nat} {e op fr a : Nat} {hc : Bool} (ha : a ≤ e) : mW (mOps b e hc op fr a) (fun r => a ≤ r.2 ∧ r.2 ≤ e) mTr := by
  unfold mOps
  by_cases q0 : mFollows op = 0
  · rw [if_pos q0]
    exact ⟨Nat.le_refl _, ha⟩
  rw [if_neg q0]
  by_cases q1 : mFollows op = 1
  · rw [if_pos q1]
    rw [mW_bind]
    exact mW_in fun t ht => by
      have h1 := mBt_in ht
      exact ⟨by show a ≤ t.2; omega, by show t.2 ≤ e; omega⟩
  rw [if_neg q1]
  by_cases q2 : mFollows op = 2
  · rw [if_pos q2]
    rw [mW_bind]
    exact mW_in fun t ht => by
      have h1 := mU_in ht ha
      exact ⟨by show a ≤ t.2; omega, h1.2⟩
  rw [if_neg q2]
  by_cases q3 : mFollows op = 3
  · rw [if_pos q3]
    rw [mW_bind]
    exact mW_in fun t ht => mSk_in _ _ _ ht ha
  rw [if_neg q3]
  by_cases q4 : mFollows op = 4
  · rw [if_pos q4]
    rw [mW_bind]
    exact mW_in fun t ht => mSk_in _ _ _ ht ha
  rw [if_neg q4]
  by_cases q5 : mFollows op = 5
  · rw [if_pos q5]
    rw [mW_bind]
    refine mW_in fun t ht => ?_
    have h1 := mU_in ht ha
    rw [mW_bind]
    exact mW_in fun u hu => by
      have h2 := mU_in hu h1.2
      exact ⟨by show a ≤ u.2; omega, h2.2⟩
  rw [if_neg q5]
  by_cases q6 : mFollows op = 6
  · rw [if_pos q6]
    rw [mW_bind]
    refine mW_in fun t ht => ?_
    have h1 := mU_in ht ha
    rw [mW_bind]
    exact mW_in fun u hu => by
      have h2 := mNeed_in hu
      exact ⟨by show a ≤ u; omega, by show u ≤ e; omega⟩
  rw [if_neg q6]
  by_cases q7 : mFollows op = 7
  · rw [if_pos q7]
    rw [mW_bind]
    exact mW_in fun u hu => by
      have h2 := mNeed_in hu
      exact ⟨by show a ≤ u; omega, by show u ≤ e; omega⟩
  rw [if_neg q7]
  by_cases q8 : mFollows op = 8
  · rw [if_pos q8]
    rw [mW_bind]
    refine mW_in fun t ht => ?_
    have h1 := mU_in ht ha
    rw [mW_ite]
    split
    trivial
    · rw [mW_bind]
      exact mW_in fun u hu => by
        have h2 := mRow_in (e := e) (fun a r ha h => ⟨Nat.le_of_lt (mU_in h ha).1, (mU_in h ha).2⟩) _ _ _ hu h1.2
        exact ⟨by show a ≤ u.2; omega, h2.2.1⟩
  rw [if_neg q8]
  by_cases q9 : mFollows op = 9
  · rw [if_pos q9]
    rw [mW_bind]
    refine mW_in fun n hn => ?_
    have h1 := mU_in hn ha
    rw [mW_ite]
    split
    trivial
    rw [mW_ite]
    split
    trivial
    rw [mW_bind]
    have g1 : mW (if n.1 = 8 ∨ n.1 = 9 ∨ n.1 = 12 ∨ n.1 = 13 then mU b e n.2 else .ok (0, n.2) : mE (Nat × Nat)) (fun u => a ≤ u.2 ∧ u.2 ≤ e) mTr := by
      rw [mW_ite]
      split
      · exact mW_in fun u hu => by
          have h2 := mU_in hu h1.2
          exact ⟨by omega, h2.2⟩
      · exact ⟨by show a ≤ n.2; omega, h1.2⟩
    refine mW_mono g1 (fun u _ hu => ?_) (fun _ _ _ h => h)
    rw [mW_bind]
    have g2 : mW (if n.1 = 8 ∨ n.1 = 11 ∨ n.1 = 12 then mNeed b e 0 u.2 else .ok u.2 : mE Nat) (fun p => a ≤ p ∧ p ≤ e) mTr := by
      rw [mW_ite]
      split
      · exact mW_in fun p hp => by
          have h2 := mNeed_in hp
          exact ⟨by omega, by omega⟩
      · exact hu
    refine mW_mono g2 (fun p _ hp => ?_) (fun _ _ _ h => h)
    rw [mW_bind]
    have g3 : mW (if n.1 = 10 ∨ n.1 = 14 then (mNeed b e 0 p).bind fun q => mNeed b e 0 q else .ok p : mE Nat) (fun p => a ≤ p ∧ p ≤ e) mTr := by
      rw [mW_ite]
      split
      · rw [mW_bind]
        refine mW_in fun q hq => ?_
        have h2 := mNeed_in hq
        exact mW_in fun q hq => by
          have h3 := mNeed_in hq
          exact ⟨by omega, by omega⟩
      · exact hp
    exact mW_mono g3 (fun q _ hq => hq) (fun _ _ _ h => h)
  rw [if_neg q9]
  trivial
def mC11 (b : Nat → Nat) (e : Nat) (hc : Bool) (f : Nat) (ow : List Nat) (l : List (Nat × mInsT)) (a : Nat) : mE (List (Nat × mInsT) × Nat) := match ow with
  | [] => .ok (l, a)
  | _ :: o => mCode b e hc f o l a
theorem mCodeS (b : Nat → Nat) (e : Nat) (hc : Bool) (f : Nat) (ow : List Nat) (l : List (Nat × mInsT)) (a : Nat) : mCode b e hc (f + 1) ow l a = (mOct b e a).bind fun k =>
    if (2 ≤ k.1 ∧ k.1 ≤ 4) ∧ ow.length = 60 then .error (4, a)
    else if k.1 = 5 ∧ ¬ ow.head? = some 4 then .error (1, a)
    else (mOps b e hc k.1 a k.2).bind fun r =>
      if 2 ≤ k.1 ∧ k.1 ≤ 4 then mCode b e hc f (k.1 :: ow) (l ++ [(a, r.1)]) r.2
      else if k.1 = 5 then mCode b e hc f (5 :: ow.tail) (l ++ [(a, r.1)]) r.2
      else if k.1 = 11 then mC11 b e hc f ow (l ++ [(a, r.1)]) r.2
      else mCode b e hc f ow (l ++ [(a, r.1)]) r.2 := rfl
/-- only the reader's place and the openers are written -/
def cK (σ s : zS) : Prop := ∀ c i, ¬ c = 6 → ¬ (c = 0 ∧ i = 12) → s.1 c i = σ.1 c i ∧ s.2 c i = σ.2 c i
theorem cK.rf {σ : zS} : cK σ σ := fun _ _ _ _ => ⟨rfl, rfl⟩
theorem cK.at {σ s : zS} (h : cK σ s) (x : Nat) : cK σ (mAt s x) := fun c i h1 h2 => ⟨by rw [mAt, zI1, if_neg h2]; exact (h c i h1 h2).1, (h c i h1 h2).2⟩
theorem cK.i {σ s : zS} (h : cK σ s) (j : Nat) (x : Int32) : cK σ (zsI s 6 j x) := fun c i h1 h2 => ⟨by rw [zI1, if_neg (fun z => h1 z.1)]; exact (h c i h1 h2).1, (h c i h1 h2).2⟩
/-- what the open blocks were opened with -/
def owR (s : zS) : List Nat → Prop
  | [] => True
  | x :: r => s.1 6 r.length = nI x ∧ x < 256 ∧ owR s r
theorem owR_i {s : zS} {j : Nat} {v : Int32} : ∀ {ow : List Nat}, ow.length ≤ j → owR s ow → owR (zsI s 6 j v) ow := by
  intro ow
  induction ow with
  | nil => intro _ _; trivial
  | cons x r ih =>
    intro hj h
    simp only [List.length_cons] at hj
    exact ⟨by rw [zI1, if_neg (by omega)]; exact h.1, h.2.1, ih (by omega) h.2.2⟩
theorem owR_at {s : zS} {x : Nat} : ∀ {ow : List Nat}, owR s ow → owR (mAt s x) ow := by
  intro ow
  induction ow with
  | nil => intro _; trivial
  | cons y r ih => intro h; exact ⟨by rw [mAt, zI1, if_neg (by omega)]; exact h.1, h.2.1, ih h.2.2⟩
theorem nI_sub1 {n : Nat} : nI (n + 1) - (1 : Int32) = nI n := by rw [← nI_1]; exact Int32.add_sub_cancel _ _
theorem nI_m1 {n : Nat} : nI (n + 1) + (-1 : Int32) = nI n := by rw [← nI_1, Int32.add_assoc]; exact Int32.add_zero _
theorem sp_readCode {τ σ : zS} {B : Nat} {b : Nat → Nat} {e a : Nat} {hc : Bool} {K : zS → Prop} {QX : zS → Prop} (hs : mSt τ σ B b e a) (hcs : σ.1 0 18 = bI hc)
    (h : mW (mCode b e hc (e + 1 - a) [] [] a) (fun r => ∀ σ', mSt τ σ' B b e r.2 → cK σ σ' → K σ') (mEr τ B QX)) : zCT zZM zmX10_readCode [.ref 0] σ (zQv K) QX := by
  refine rX10_readCode (fun m x1 s => ∃ (ow : List Nat) (lst : List (Nat × mInsT)) (p : Nat), x1 = nI ow.length ∧ ow.length ≤ 60 ∧ e + 1 ≤ m + p ∧ mSt τ s B b e p ∧ cK σ s ∧ owR s ow ∧
      mW (mCode b e hc m ow lst p) (fun r => ∀ σ', mSt τ σ' B b e r.2 → cK σ σ' → K σ') (mEr τ B QX)) ?_ ?_
  · rintro m x1 s ⟨ow, lst, p, rfl, hlen, hfuel, hs', hck, how, hw⟩
    have hpe := hs'.2.2.2.2.1
    obtain ⟨f, rfl⟩ : ∃ z, m = z + 1 := ⟨m - 1, by omega⟩
    unfold PX10_readCode_2
    rw [mCodeS, mW_bind] at hw
    refine sp_octet hs' (mW_mono hw (fun k hk hw => ?_) (fun k p _ h => h))
    obtain ⟨k1, rfl⟩ := mOct_in hk
    have hop := (hs'.2.1 p (by have := hs'.2.2.2.2.2.1; omega)).1
    have hw : mW (if (2 ≤ b p ∧ b p ≤ 4) ∧ ow.length = 60 then .error (4, p)
        else if b p = 5 ∧ ¬ ow.head? = some 4 then .error (1, p)
        else (mOps b e hc (b p) p (p + 1)).bind fun r =>
          if 2 ≤ b p ∧ b p ≤ 4 then mCode b e hc f (b p :: ow) (lst ++ [(p, r.1)]) r.2
          else if b p = 5 then mCode b e hc f (5 :: ow.tail) (lst ++ [(p, r.1)]) r.2
          else if b p = 11 then mC11 b e hc f ow (lst ++ [(p, r.1)]) r.2
          else mCode b e hc f ow (lst ++ [(p, r.1)]) r.2) (fun r => ∀ σ', mSt τ σ' B b e r.2 → cK σ σ' → K σ') (mEr τ B QX) := hw
    generalize hopv : b p = op at hw hop
    have h1 : mSt τ (mAt s (B + (p + 1))) B b e (p + 1) := hs'.at (by omega)
    have hck1 := hck.at (B + (p + 1))
    have how1 : owR (mAt s (B + (p + 1))) ow := owR_at how
    generalize hs1 : mAt s (B + (p + 1)) = s1 at h1 hck1 how1
    have l2 : nI op < (2 : Int32) ↔ op < 2 := nI_ltI (b := 2) (by omega) (by decide)
    have g4 : (4 : Int32) < nI op ↔ 4 < op := nI_ltI (a := 4) (by decide) (by omega)
    have c60 : nI ow.length = (60 : Int32) ↔ ow.length = 60 := nI_eq (b := 60) (by omega) (by decide)
    have c0 : nI ow.length = (0 : Int32) ↔ ow.length = 0 := nI_eq (b := 0) (by omega) (by decide)
    have c5 : nI op = (5 : Int32) ↔ op = 5 := nI_eq (b := 5) (by omega) (by decide)
    have c11 : nI op = (11 : Int32) ↔ op = 11 := nI_eq (b := 11) (by omega) (by decide)
    rw [l2, g4, c60, hs'.2.2.1]
    rw [mW_ite] at hw
    have w63 : ¬ ((2 ≤ op ∧ op ≤ 4) ∧ ow.length = 60) → ¬ (op = 5 ∧ ¬ ow.head? = some 4) → PX10_readCode_63 (fun y1 τ_1 => ∃ n', zlt n' (some (f + 1)) ∧ ∃ (ow : List Nat) (lst : List (Nat × mInsT)) (p : Nat), y1 = nI ow.length ∧ ow.length ≤ 60 ∧ e + 1 ≤ n' + p ∧ mSt τ τ_1 B b e p ∧ cK σ τ_1 ∧ owR τ_1 ow ∧
      mW (mCode b e hc n' ow lst p) (fun r => ∀ σ', mSt τ σ' B b e r.2 → cK σ σ' → K σ') (mEr τ B QX)) (zQv K) QX (nI ow.length) (nI (B + p)) (nI op) s1 := by
      intro q1 q2
      rw [if_neg q1, mW_ite, if_neg q2, mW_bind] at hw
      unfold PX10_readCode_63
      have h18 : s1.1 0 18 = bI hc := by rw [(hck1 0 18 (by decide) (by decide)).1]; exact hcs
      refine sp_operands h1 h18 hop (mW_mono hw (fun r hr hw => ?_) (fun k p _ h => h))
      have ri := mW_get (mOps_in (show p + 1 ≤ e by omega)) hr
      have h2 : mSt τ (mAt s1 (B + r.2)) B b e r.2 := h1.at ri.2
      have hck2 := hck1.at (B + r.2)
      have how2 : owR (mAt s1 (B + r.2)) ow := owR_at how1
      generalize mAt s1 (B + r.2) = s2 at h2 hck2 how2
      rw [l2, g4]
      have w92 : ¬ (2 ≤ op ∧ op ≤ 4) → PX10_readCode_92 (fun y1 τ_1 => ∃ n', zlt n' (some (f + 1)) ∧ ∃ (ow : List Nat) (lst : List (Nat × mInsT)) (p : Nat), y1 = nI ow.length ∧ ow.length ≤ 60 ∧ e + 1 ≤ n' + p ∧ mSt τ τ_1 B b e p ∧ cK σ τ_1 ∧ owR τ_1 ow ∧
      mW (mCode b e hc n' ow lst p) (fun r => ∀ σ', mSt τ σ' B b e r.2 → cK σ σ' → K σ') (mEr τ B QX)) (zQv K) QX (nI ow.length) (nI op) s2 := by
        intro q3
        rw [if_neg q3] at hw
        unfold PX10_readCode_92
        rw [c5, c11, c0]
        refine ⟨fun q => ?_, fun q => ⟨fun q4 => ⟨fun q5 => ?_, fun q5 => ?_⟩, fun q4 => ?_⟩⟩
        · rw [if_pos q] at hw
          cases ow with
          | nil => exact absurd ⟨q, by simp⟩ q2
          | cons x o =>
            simp only [List.length_cons] at hlen ⊢
            rw [nI_sub1, nI_clamp (by omega)]
            refine ⟨vp_in_nI (by omega) (by decide), fun s3 e3 => ⟨f, Nat.lt_succ_self f, 5 :: o, _, r.2, rfl, hlen, by omega, ?_, ?_, ?_, hw⟩⟩
            · rw [e3]; exact h2.i _ (by unfold kpd; omega) (by omega)
            · rw [e3]; exact hck2.i _ _
            · rw [e3]; exact ⟨by rw [zI1, if_pos ⟨rfl, rfl⟩]; rfl, by decide, owR_i (Nat.le_refl _) how2.2.2⟩
        · rw [if_neg q, if_pos q4] at hw
          cases ow with
          | nil => exact hw s2 h2 hck2
          | cons x o => simp at q5
        · rw [if_neg q, if_pos q4] at hw
          cases ow with
          | nil => simp at q5
          | cons x o =>
            simp only [List.length_cons] at hlen ⊢
            rw [nI_m1]
            exact ⟨f, Nat.lt_succ_self f, o, _, r.2, rfl, by omega, by omega, h2, hck2, how2.2.2, hw⟩
        · rw [if_neg q, if_neg q4] at hw
          exact ⟨f, Nat.lt_succ_self f, ow, _, r.2, rfl, hlen, by omega, h2, hck2, how2, hw⟩
      refine ⟨fun q => w92 (by omega), fun q => ⟨fun q3 => w92 (by omega), fun q3 => ?_⟩⟩
      rw [if_pos (by omega)] at hw
      rw [nI_clamp (by omega)]
      refine ⟨vp_in_nI (by omega) (by decide), fun s3 e3 => ⟨f, Nat.lt_succ_self f, op :: ow, _, r.2, nI_1 _, by simp only [List.length_cons]; omega, by omega, ?_, ?_, ?_, hw⟩⟩
      · rw [e3]; exact h2.i _ (by unfold kpd; omega) (by omega)
      · rw [e3]; exact hck2.i _ _
      · rw [e3]; exact ⟨by rw [zI1, if_pos ⟨rfl, rfl⟩], hop, owR_i (Nat.le_refl _) how2⟩
    have w35 : ¬ ((2 ≤ op ∧ op ≤ 4) ∧ ow.length = 60) → PX10_readCode_35 (fun y1 τ_1 => ∃ n', zlt n' (some (f + 1)) ∧ ∃ (ow : List Nat) (lst : List (Nat × mInsT)) (p : Nat), y1 = nI ow.length ∧ ow.length ≤ 60 ∧ e + 1 ≤ n' + p ∧ mSt τ τ_1 B b e p ∧ cK σ τ_1 ∧ owR τ_1 ow ∧
      mW (mCode b e hc n' ow lst p) (fun r => ∀ σ', mSt τ σ' B b e r.2 → cK σ σ' → K σ') (mEr τ B QX)) (zQv K) QX (nI ow.length) (nI (B + p)) (nI op) s1 := by
      intro q1
      unfold PX10_readCode_35
      rw [c5, c0]
      have bad : op = 5 ∧ ¬ ow.head? = some 4 → PX10_readCode_56 (fun y1 τ_1 => ∃ n', zlt n' (some (f + 1)) ∧ ∃ (ow : List Nat) (lst : List (Nat × mInsT)) (p : Nat), y1 = nI ow.length ∧ ow.length ≤ 60 ∧ e + 1 ≤ n' + p ∧ mSt τ τ_1 B b e p ∧ cK σ τ_1 ∧ owR τ_1 ow ∧
      mW (mCode b e hc n' ow lst p) (fun r => ∀ σ', mSt τ σ' B b e r.2 → cK σ σ' → K σ') (mEr τ B QX)) (zQv K) QX (nI (B + p)) s1 := fun q2 => by
        rw [if_neg q1, mW_ite, if_pos q2] at hw
        unfold PX10_readCode_56
        exact sp_throw (k := 1) h1.1 hw
      refine ⟨fun q => ?_, fun q => w63 q1 (fun z => q z.1)⟩
      cases ow with
      | nil => exact ⟨fun _ => bad ⟨q, by simp⟩, fun z => by simp at z⟩
      | cons x o =>
        refine ⟨fun z => by simp at z, fun _ => ?_⟩
        simp only [List.length_cons] at hlen ⊢
        rw [nI_sub1, nI_clamp (by omega), how1.1]
        have cx : nI x = (4 : Int32) ↔ x = 4 := nI_eq (b := 4) (by have := how1.2.1; omega) (by decide)
        rw [cx]
        exact ⟨vp_in_nI (by omega) (by decide), fun q4 => w63 q1 (fun z => z.2 (by rw [q4]; rfl)), fun q4 => bad ⟨q, fun z => q4 (by simpa using z)⟩⟩
    refine ⟨fun q => w35 (by omega), fun q => ⟨fun q2 => w35 (by omega), fun q2 => ⟨fun q3 => ?_, fun q3 => w35 (fun z => q3 z.2)⟩⟩⟩
    rw [if_pos ⟨by omega, q3⟩] at hw
    exact sp_throw (k := 4) h1.1 hw
  · unfold PX10_readCode_0
    have hae := hs.2.2.2.2.1
    exact ⟨e + 1 - a, trivial, [], [], a, rfl, by simp, by omega, hs, cK.rf, trivial, h⟩
