/-! imports, functions, tables, memories, globals, exports -/
theorem ww_own {tab : Bool} {c : Nat} {l : List mTabT} : ¬ wL (fun p x => 1 < c + p.length + 1 ∨ ¬ mRight tab x.2.2.1 x.2.2.2 = true) [] l ↔ l.length = 0 ∨ (c = 0 ∧ l.length = 1 ∧ mRight tab (l.getD 0 tab0).2.2.1 (l.getD 0 tab0).2.2.2 = true) := by
  rw [wL_no]
  cases l with
  | nil => exact ⟨fun _ => Or.inl rfl, fun _ i x h => by simp at h⟩
  | cons x r =>
    cases r with
    | nil =>
      constructor
      · intro h
        have h0 := h 0 x rfl
        have h0 : ¬ (1 < c + 0 + 1 ∨ ¬ mRight tab x.2.2.1 x.2.2.2 = true) := h0
        refine Or.inr ⟨by omega, rfl, ?_⟩
        show mRight tab x.2.2.1 x.2.2.2 = true
        exact Decidable.not_not.1 (fun z => h0 (Or.inr z))
      · rintro (h | ⟨h1, h2, h3⟩)
        · cases h
        · intro i y hy
          have hi : i = 0 := by have := get_len hy; simp at this; omega
          subst hi
          cases hy
          have h3 : mRight tab x.2.2.1 x.2.2.2 = true := h3
          show ¬ (1 < c + 0 + 1 ∨ ¬ mRight tab x.2.2.1 x.2.2.2 = true)
          exact fun z => z.elim (fun z => by omega) (fun z => z h3)
    | cons y r =>
      constructor
      · intro h
        have h1 := h 1 y rfl
        have h1 : ¬ (1 < c + 1 + 1 ∨ ¬ mRight tab y.2.2.1 y.2.2.2 = true) := h1
        exact absurd (Or.inl (by omega)) h1
      · rintro (h | ⟨h1, h2, h3⟩)
        · cases h
        · have h2 : r.length + 1 + 1 = 1 := h2
          omega
theorem mOne_iff {A : mA} {k : Nat} : mOne A k = .ok () ↔ cntI A k < 2 ∧ ((ownK A k).length = 0 ∨ (cntI A k = 0 ∧ (ownK A k).length = 1 ∧ mRight (decide (k = 1)) ((ownK A k).getD 0 tab0).2.2.1 ((ownK A k).getD 0 tab0).2.2.2 = true)) := by
  unfold mOne
  rw [bU_iff, mMust_iff]
  by_cases q : (ownK A k).length = 0
  · rw [if_pos q]; exact ⟨fun h => ⟨h.1, Or.inl q⟩, fun h => ⟨h.1, rfl⟩⟩
  · rw [if_neg q, bU_iff, bU_iff, mMust_iff, mMust_iff, mMust_iff]
    exact ⟨fun h => ⟨h.1, Or.inr h.2⟩, fun h => ⟨h.1, h.2.resolve_left q⟩⟩
theorem ww_im {A : mA} : ¬ wIm A ↔ (∀ i, i < (aI A).length → mIm A i = .ok ()) ∧ cntI A 1 < 2 ∧ cntI A 2 < 2 := by
  have two : ∀ k, cntI A k < 2 ↔ ∀ i x, (aI A)[i]? = some x → ¬ (x.2.1 = k ∧ 1 < (kI k ((aI A).take i)).length + 1) := fun k => by
    rw [← wL_no (f := fun p x => x.2.1 = k ∧ 1 < (kI k p).length + 1), kI_two, cntI_k]
    omega
  have im : ∀ i x, (aI A)[i]? = some x → (mIm A i = .ok () ↔ (x.2.1 = 0 → x.2.2.2.1 < (aS A).length) ∧ (x.2.1 = 1 → mRight true x.2.2.2.2.2.1 x.2.2.2.2.2.2 = true) ∧ (x.2.1 = 2 → mRight false x.2.2.2.2.2.1 x.2.2.2.2.2.2 = true)) := fun i x hx => by
    unfold mIm
    rw [get_D (d := imp0) hx]
    by_cases q0 : x.2.1 = 0
    · rw [if_pos q0, mMust_iff]
      exact ⟨fun h => ⟨fun _ => h, fun z => absurd z (by omega), fun z => absurd z (by omega)⟩, fun h => h.1 q0⟩
    rw [if_neg q0]
    by_cases q1 : x.2.1 = 1
    · rw [if_pos (Or.inl q1), mMust_iff, decide_eq_true q1]
      exact ⟨fun h => ⟨fun z => absurd z q0, fun _ => h, fun z => absurd z (by omega)⟩, fun h => h.2.1 q1⟩
    by_cases q2 : x.2.1 = 2
    · rw [if_pos (Or.inr q2), mMust_iff, decide_eq_false q1]
      exact ⟨fun h => ⟨fun z => absurd z q0, fun z => absurd z q1, fun _ => h⟩, fun h => h.2.2 q2⟩
    · rw [if_neg (by omega)]
      exact ⟨fun _ => ⟨fun z => absurd z q0, fun z => absurd z q1, fun z => absurd z q2⟩, fun _ => rfl⟩
  rw [two, two]
  unfold wIm
  rw [wL_no]
  constructor
  · intro h
    refine ⟨fun i hi => ?_, fun i x hx z => ?_, fun i x hx z => ?_⟩
    · have hx := getD_of (d := imp0) hi
      have hb := h i _ hx
      unfold impBad at hb
      refine (im i _ hx).2 ⟨fun z => ?_, fun z => ?_, fun z => ?_⟩
      · exact Decidable.not_not.1 (fun w => hb (Or.inl ⟨z, w⟩))
      · exact Decidable.not_not.1 (fun w => hb (Or.inr (Or.inl ⟨z, Or.inl w⟩)))
      · exact Decidable.not_not.1 (fun w => hb (Or.inr (Or.inr ⟨z, Or.inl w⟩)))
    · exact h i x hx (Or.inr (Or.inl ⟨z.1, Or.inr z.2⟩))
    · exact h i x hx (Or.inr (Or.inr ⟨z.1, Or.inr z.2⟩))
  · rintro ⟨h1, h2, h3⟩ i x hx hb
    obtain ⟨i0, i1, i2⟩ := (im i x hx).1 (h1 i (get_len hx))
    unfold impBad at hb
    rcases hb with ⟨z, w⟩ | ⟨z, w | w⟩ | ⟨z, w | w⟩
    · exact w (i0 z)
    · exact w (i1 z)
    · exact h2 i x hx ⟨z, w⟩
    · exact w (i2 z)
    · exact h3 i x hx ⟨z, w⟩
theorem ww_1 {A : mA} : (¬ wIm A ∧ ¬ wTb A ∧ ¬ wMm A) ↔ (∀ i, i < (aI A).length → mIm A i = .ok ()) ∧ mOne A 1 = .ok () ∧ mOne A 2 = .ok () := by
  rw [ww_im, mOne_iff, mOne_iff]
  unfold wTb wMm
  rw [ww_own, ww_own, ← cntI_k, ← cntI_k]
  have e1 : ownK A 1 = aT A := rfl
  have e2 : ownK A 2 = aM A := rfl
  rw [e1, e2]
  exact ⟨fun ⟨⟨a, b, c⟩, d, e⟩ => ⟨a, ⟨b, d⟩, ⟨c, e⟩⟩, fun ⟨a, ⟨b, d⟩, ⟨c, e⟩⟩ => ⟨⟨a, b, c⟩, d, e⟩⟩
theorem ww_fn {A : mA} : ¬ wFn A ↔ ∀ i, i < (aF A).length → mFu A i = .ok () := by
  unfold wFn
  rw [wL_no]
  unfold mFu
  constructor
  · intro h i hi
    rw [mMust_iff]
    exact Decidable.not_not.1 (h i _ (getD_of (d := ((0, 0) : mFnT)) hi))
  · intro h i x hx z
    have := h i (get_len hx)
    rw [mMust_iff, get_D (d := ((0, 0) : mFnT)) hx] at this
    exact z this
theorem kCst_m {G G' : List (Nat × Nat)} {m : Nat} {b : Nat → Nat} {e c ty : Nat} (h : ∀ u, u < m → G.getD u (0, 0) = G'.getD u (0, 0)) : kCst G m b e c ty ↔ kCst G' m b e c ty := by
  unfold kCst
  by_cases q : b c = 35
  · rw [if_pos q, if_pos q]
    cases mU b e (c + 1) with
    | error z => exact Iff.rfl
    | ok u => exact ⟨fun w => ⟨w.1, by rw [← h _ w.1]; exact w.2.1, by rw [← h _ w.1]; exact w.2.2⟩, fun w => ⟨w.1, by rw [h _ w.1]; exact w.2.1, by rw [h _ w.1]; exact w.2.2⟩⟩
  · rw [if_neg q, if_neg q]
theorem ww_cst {A : mA} {b : Nat → Nat} {e c ty : Nat} : kCst (glL A) (kI 3 (aI A)).length b e c ty ↔ mCst A b e c ty = true := by
  unfold kCst mCst
  rw [cntI_k]
  by_cases q : b c = 35
  · rw [if_pos q, if_pos q]
    cases mU b e (c + 1) with
    | error z => exact ⟨fun w => w.elim, fun w => (by cases w)⟩
    | ok u =>
      show (u.1 < (kI 3 (aI A)).length ∧ ((glL A).getD u.1 (0, 0)).2 = 0 ∧ ((glL A).getD u.1 (0, 0)).1 = ty) ↔ (decide (u.1 < (kI 3 (aI A)).length) && decide (gloC A u.1 = 0) && decide (gloT A u.1 = ty)) = true
      simp only [Bool.and_eq_true, decide_eq_true_eq]
      have g : u.1 < (kI 3 (aI A)).length → (glL A).getD u.1 (0, 0) = (gloT A u.1, gloC A u.1) := fun w => get_D (glL_at (by rw [nGlo_k, glL_len]; omega))
      exact ⟨fun w => by rw [g w.1] at w; exact ⟨⟨w.1, w.2.1⟩, w.2.2⟩, fun w => by rw [g w.1.1]; exact ⟨w.1.1, w.1.2, w.2⟩⟩
  · rw [if_neg q, if_neg q, decide_eq_true_eq]
theorem ww_gl {A : mA} {b : Nat → Nat} {E : Nat} : ¬ wGl b E A ↔ ∀ i, i < (aG A).length → mGlob b E A i = .ok () := by
  have pre : ∀ p c ty, kCst (gIl (aI A) ++ gOl p) (kI 3 (aI A)).length b E c ty ↔ mCst A b E c ty = true := fun p c ty => by
    rw [← ww_cst]
    refine kCst_m (fun u hu => ?_)
    have hl : u < (gIl (aI A)).length := by unfold gIl; rw [List.length_map]; exact hu
    rw [List.getD_eq_getElem?_getD, List.getD_eq_getElem?_getD, List.getElem?_append_left hl]
    unfold glL
    rw [List.getElem?_append_left hl]
  unfold wGl
  rw [wL_no]
  unfold mGlob
  constructor
  · intro h i hi
    rw [mMust_iff]
    exact (pre _ _ _).1 (Classical.byContradiction (fun z => h i _ (getD_of (d := ((0, 0, 0) : mGlT)) hi) z))
  · intro h i x hx z
    have := h i (get_len hx)
    rw [mMust_iff, get_D (d := ((0, 0, 0) : mGlT)) hx] at this
    exact z ((pre _ _ _).2 this)
theorem mUniq_iff {b : Nat → Nat} {X : List mExT} {x : mExT} : ∀ n i, mUniq b X x n i = .ok () ↔ ∀ j, i ≤ j → j < i + n → mSame b (X.getD j exp0).2.1 (X.getD j exp0).2.2.1 x.2.1 x.2.2.1 = false := by
  intro n
  induction n with
  | zero => intro i; exact ⟨fun _ j h1 h2 => absurd h2 (by omega), fun _ => rfl⟩
  | succ n ih =>
    intro i
    show ((mMust _ _).bind fun _ => mUniq b X x n (i + 1)) = .ok () ↔ _
    rw [bU_iff, mMust_iff, ih]
    constructor
    · rintro ⟨h1, h2⟩ j a1 a2
      by_cases q : j = i
      · rw [q]; exact h1
      · exact h2 j (by omega) (by omega)
    · exact fun h => ⟨h i (Nat.le_refl _) (by omega), fun j a1 a2 => h j (by omega) (by omega)⟩
theorem kc_exp {A : mA} (h1 : mOne A 1 = .ok ()) (h2 : mOne A 2 = .ok ()) (x : mExT) : kc A x.2.2.2.1 = expN A x := by
  have o1 := mOne_iff.1 h1
  have o2 := mOne_iff.1 h2
  have e1 : ownK A 1 = aT A := rfl
  have e2 : ownK A 2 = aM A := rfl
  rw [e1] at o1
  rw [e2] at o2
  have t1 : kTb A = cntI A 1 + (aT A).length := by rw [cntI_k]; rfl
  have t2 : kMm A = cntI A 2 + (aM A).length := by rw [cntI_k]; rfl
  unfold kc expN
  by_cases q0 : x.2.2.2.1 = 0
  · rw [if_pos q0, if_pos q0, nFun_k]
  rw [if_neg q0, if_neg q0]
  by_cases q1 : x.2.2.2.1 = 1
  · rw [if_pos q1, if_neg (by omega), q1]
    rw [show hasK A 1 = decide (0 < cntI A 1 + (aT A).length) from rfl, t1]
    by_cases q : 0 < cntI A 1 + (aT A).length
    · rw [if_pos (decide_eq_true q)]; omega
    · rw [if_neg (by rw [decide_eq_false q]; decide)]; omega
  rw [if_neg q1]
  by_cases q2 : x.2.2.2.1 = 2
  · rw [if_pos q2, if_neg (by omega), q2]
    rw [show hasK A 2 = decide (0 < cntI A 2 + (aM A).length) from rfl, t2]
    by_cases q : 0 < cntI A 2 + (aM A).length
    · rw [if_pos (decide_eq_true q)]; omega
    · rw [if_neg (by rw [decide_eq_false q]; decide)]; omega
  rw [if_neg q2]
  by_cases q3 : x.2.2.2.1 = 3
  · rw [if_pos q3, if_pos q3, nGlo_k]
  rw [if_neg q3, if_neg q3]
theorem ww_ex {A : mA} {b : Nat → Nat} (h1 : mOne A 1 = .ok ()) (h2 : mOne A 2 = .ok ()) : ¬ wEx b A ↔ ∀ i, i < (aX A).length → mExpo b A i = .ok () := by
  have one : ∀ i x, (aX A)[i]? = some x → (mExpo b A i = .ok () ↔ ¬ (¬ x.2.2.2.2.2 < kc A x.2.2.2.1 ∨ (nmX ((aX A).take i)).any (nmHas b x.2.1 x.2.2.1) = true)) := fun i x hx => by
    unfold mExpo
    rw [bU_iff, mMust_iff, mUniq_iff, get_D (d := exp0) hx, kc_exp h1 h2]
    have hi := get_len hx
    have any : (∀ j, 0 ≤ j → j < 0 + i → mSame b ((aX A).getD j exp0).2.1 ((aX A).getD j exp0).2.2.1 x.2.1 x.2.2.1 = false) ↔ ¬ (nmX ((aX A).take i)).any (nmHas b x.2.1 x.2.2.1) = true := by
      have same : ∀ y : mExT, nmHas b x.2.1 x.2.2.1 (y.2.1, y.2.2.1) = mSame b y.2.1 y.2.2.1 x.2.1 x.2.2.1 := fun y => by
        unfold nmHas mSame
        show (decide (y.2.2.1 = x.2.2.1) && mSameTo b y.2.1 x.2.1 x.2.2.1) = (decide (y.2.2.1 = x.2.2.1) && mSameTo b y.2.1 x.2.1 y.2.2.1)
        by_cases q : y.2.2.1 = x.2.2.1
        · rw [q]
        · rw [decide_eq_false q, Bool.false_and, Bool.false_and]
      rw [List.any_eq_true]
      constructor
      · rintro h ⟨z, hz, hn⟩
        unfold nmX at hz
        obtain ⟨y, hy, rfl⟩ := List.mem_map.1 hz
        obtain ⟨j, hj, ej⟩ := List.mem_iff_getElem.1 hy
        rw [List.length_take] at hj
        have hj2 : (aX A)[j]? = some y := by
          rw [List.getElem_take] at ej
          rw [List.getElem?_eq_getElem (by omega), ej]
        have := h j (Nat.zero_le _) (by omega)
        rw [get_D (d := exp0) hj2, ← same, hn] at this
        cases this
      · intro h j _ hj
        cases hs : mSame b ((aX A).getD j exp0).2.1 ((aX A).getD j exp0).2.2.1 x.2.1 x.2.2.1 with
        | false => rfl
        | true =>
          exfalso
          refine h ⟨(((aX A).getD j exp0).2.1, ((aX A).getD j exp0).2.2.1), ?_, by rw [same]; exact hs⟩
          unfold nmX
          refine List.mem_map.2 ⟨(aX A).getD j exp0, ?_, rfl⟩
          have hg := getD_of (l := aX A) (d := exp0) (show j < (aX A).length by omega)
          refine List.mem_iff_getElem?.2 ⟨j, ?_⟩
          rw [List.getElem?_take_of_lt (by omega)]
          exact hg
    rw [any]
    exact ⟨fun w z => z.elim (fun z => z w.1) w.2, fun w => ⟨Decidable.not_not.1 (fun z => w (Or.inl z)), fun z => w (Or.inr z)⟩⟩
  unfold wEx
  rw [wL_no]
  exact ⟨fun h i hi => (one i _ (getD_of (d := exp0) hi)).2 (h i _ (getD_of (d := exp0) hi)), fun h i x hx => (one i x hx).1 (h i (get_len hx))⟩
