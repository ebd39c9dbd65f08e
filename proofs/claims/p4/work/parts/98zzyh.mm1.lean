/-! what the module means: the class's words and the model's -/
theorem mAll_iff {f : Nat → mE Unit} : ∀ n i, mAll f n i = .ok () ↔ ∀ j, i ≤ j → j < i + n → f j = .ok () := by
  intro n
  induction n with
  | zero => intro i; exact ⟨fun _ j h1 h2 => absurd h2 (by omega), fun _ => rfl⟩
  | succ n ih =>
    intro i
    refine ⟨fun h => mAll_ok _ _ h, fun h => ?_⟩
    show (f i).bind (fun _ => mAll f n (i + 1)) = .ok ()
    rw [h i (Nat.le_refl _) (by omega)]
    exact (ih (i + 1)).2 (fun j h1 h2 => h j (by omega) (by omega))
theorem bU_iff {x y : mE Unit} : (x.bind fun _ => y) = .ok () ↔ x = .ok () ∧ y = .ok () := by
  cases x with
  | error q => exact ⟨fun h => (by cases h), fun h => (by cases h.1)⟩
  | ok u => exact ⟨fun h => ⟨rfl, h⟩, fun h => h.2⟩
theorem mMust_iff {c : Prop} [Decidable c] {p : Nat} : mMust c p = .ok () ↔ c := by
  unfold mMust
  by_cases q : c
  · rw [if_pos q]; exact ⟨fun _ => q, fun _ => rfl⟩
  · rw [if_neg q]; exact ⟨fun h => (by cases h), fun h => absurd h q⟩
theorem mMeans_iff {b : Nat → Nat} {E : Nat} {A : mA} : mMeans b E A = .ok () ↔ (∀ i, i < (aI A).length → mIm A i = .ok ()) ∧ (∀ i, i < (aF A).length → mFu A i = .ok ()) ∧ mOne A 1 = .ok () ∧ mOne A 2 = .ok () ∧ (∀ i, i < (aG A).length → mGlob b E A i = .ok ()) ∧ (∀ i, i < (aX A).length → mExpo b A i = .ok ()) ∧ mSta A = .ok () ∧ (∀ i, i < (aE A).length → mElem b E A i = .ok ()) ∧ (∀ i, i < (aZ A).length → mDat b E A i = .ok ()) ∧ ∀ i, i < (aF A).length → mBod A i = .ok () := by
  have a : ∀ (f : Nat → mE Unit) n, mAll f n 0 = .ok () ↔ ∀ i, i < n → f i = .ok () := fun f n => by
    rw [mAll_iff]
    exact ⟨fun h i hi => h i (Nat.zero_le _) (by omega), fun h j _ h2 => h j (by omega)⟩
  unfold mMeans mZ1 mZ2 mZ3 mZ4 mZ5 mZ6 mZ7 mZ8 mZ9
  rw [bU_iff, bU_iff, bU_iff, bU_iff, bU_iff, bU_iff, bU_iff, bU_iff, bU_iff, a, a, a, a, a, a, a]
theorem wL_iff {α : Type} {f : List α → α → Prop} : ∀ {l p : List α}, wL f p l ↔ ∃ i x, l[i]? = some x ∧ f (p ++ l.take i) x := by
  intro l
  induction l with
  | nil => intro p; exact ⟨fun h => h.elim, fun ⟨i, x, h, _⟩ => by simp at h⟩
  | cons y r ih =>
    intro p
    show f p y ∨ wL f (p ++ [y]) r ↔ _
    rw [ih]
    constructor
    · rintro (h | ⟨i, x, h1, h2⟩)
      · exact ⟨0, y, rfl, by rw [List.take_zero, List.append_nil]; exact h⟩
      · exact ⟨i + 1, x, h1, by rw [List.take_succ_cons]; rw [List.append_assoc] at h2; exact h2⟩
    · rintro ⟨i, x, h1, h2⟩
      cases i with
      | zero => cases h1; rw [List.take_zero, List.append_nil] at h2; exact Or.inl h2
      | succ i => exact Or.inr ⟨i, x, h1, by rw [List.take_succ_cons] at h2; rw [List.append_assoc]; exact h2⟩
theorem wL_no {α : Type} {f : List α → α → Prop} {l : List α} : ¬ wL f [] l ↔ ∀ i x, l[i]? = some x → ¬ f (l.take i) x := by
  rw [wL_iff]
  exact ⟨fun h i x h1 h2 => h ⟨i, x, h1, h2⟩, fun h ⟨i, x, h1, h2⟩ => h i x h1 h2⟩
theorem get_len {α : Type} {l : List α} {i : Nat} {x : α} (h : l[i]? = some x) : i < l.length := (List.getElem?_eq_some_iff.1 h).1
theorem get_D {α : Type} {l : List α} {i : Nat} {x d : α} (h : l[i]? = some x) : l.getD i d = x := by rw [List.getD_eq_getElem?_getD, h]; rfl
/-- the imports of one kind -/
theorem kI_idx (k : Nat) : ∀ (l : List mImpT) (n : Nat), (idxK k n l).length = (kI k l).length := by
  intro l
  induction l with
  | nil => intro n; rfl
  | cons x r ih =>
    intro n
    unfold idxK kI
    by_cases q : x.2.1 = k
    · rw [if_pos q, List.filter_cons_of_pos (by simpa using q)]
      show (idxK k (n + 1) r).length + 1 = (kI k r).length + 1
      rw [ih]
    · rw [if_neg q, List.filter_cons_of_neg (by simpa using q)]
      exact ih (n + 1)
theorem kI_at (k : Nat) : ∀ (l pre : List mImpT) (j : Nat), j < (kI k l).length → (pre ++ l).getD ((idxK k pre.length l).getD j 0) imp0 = (kI k l).getD j imp0 := by
  intro l
  induction l with
  | nil => intro pre j hj; exact absurd hj (Nat.not_lt_zero _)
  | cons x r ih =>
    intro pre j hj
    have ih' := ih (pre ++ [x])
    rw [List.append_assoc, List.length_append] at ih'
    have ih' : ∀ j, j < (kI k r).length → (pre ++ x :: r).getD ((idxK k (pre.length + 1) r).getD j 0) imp0 = (kI k r).getD j imp0 := ih'
    unfold idxK
    by_cases q : x.2.1 = k
    · have e : kI k (x :: r) = x :: kI k r := by unfold kI; rw [List.filter_cons_of_pos (by simpa using q)]
      rw [if_pos q, e]
      rw [e] at hj
      cases j with
      | zero =>
        show (pre ++ x :: r).getD pre.length imp0 = x
        rw [List.getD_eq_getElem?_getD, List.getElem?_append_right (Nat.le_refl _), Nat.sub_self]; rfl
      | succ j =>
        rw [List.getD_cons_succ, List.getD_cons_succ]
        exact ih' j (by simpa using hj)
    · have e : kI k (x :: r) = kI k r := by unfold kI; rw [List.filter_cons_of_neg (by simpa using q)]
      rw [if_neg q, e]
      rw [e] at hj
      exact ih' j hj
theorem cntI_k (A : mA) (k : Nat) : cntI A k = (kI k (aI A)).length := kI_idx k _ _
theorem impAt_k {A : mA} {k j : Nat} (h : j < (kI k (aI A)).length) : impAt A k j = (kI k (aI A)).getD j imp0 := kI_at k (aI A) [] j h
theorem nFun_k (A : mA) : nFun A = (fnL A).length := by unfold nFun; rw [cntI_k, fnL_len]
theorem nGlo_k (A : mA) : nGlo A = (glL A).length := by unfold nGlo; rw [cntI_k, glL_len]
theorem fnL_at {A : mA} {k : Nat} (h : k < nFun A) : (fnL A)[k]? = some (funSig A k) := by
  unfold nFun at h
  unfold fnL funSig
  rw [cntI_k] at h ⊢
  by_cases q : k < (kI 0 (aI A)).length
  · rw [if_pos q, List.getElem?_append_left (by rw [List.length_map]; exact q), List.getElem?_map, getD_of (d := imp0) q, impAt_k q]; rfl
  · rw [if_neg q, List.getElem?_append_right (by rw [List.length_map]; omega), List.length_map, List.getElem?_map, getD_of (d := ((0, 0) : mFnT)) (by omega)]; rfl
theorem glL_at {A : mA} {k : Nat} (h : k < nGlo A) : (glL A)[k]? = some (gloT A k, gloC A k) := by
  unfold nGlo at h
  unfold glL gIl gOl gloT gloC
  rw [cntI_k] at h ⊢
  by_cases q : k < (kI 3 (aI A)).length
  · rw [if_pos q, if_pos q, List.getElem?_append_left (by rw [List.length_map]; exact q), List.getElem?_map, getD_of (d := imp0) q, impAt_k q]; rfl
  · rw [if_neg q, if_neg q, List.getElem?_append_right (by rw [List.length_map]; omega), List.length_map, List.getElem?_map, getD_of (d := ((0, 0, 0) : mGlT)) (by omega)]; rfl
theorem rev_ind {α : Type} {p : List α → Prop} (h0 : p []) (h1 : ∀ l x, p l → p (l ++ [x])) (l : List α) : p l := by
  have : ∀ l : List α, p l.reverse := by
    intro l
    induction l with
    | nil => exact h0
    | cons x r ih => rw [List.reverse_cons]; exact h1 _ _ ih
  have := this l.reverse
  rw [List.reverse_reverse] at this
  exact this
/-- at most one of a kind -/
theorem kI_two (k : Nat) (l : List mImpT) : wL (fun p x => x.2.1 = k ∧ 1 < (kI k p).length + 1) [] l ↔ 2 ≤ (kI k l).length := by
  refine rev_ind (p := fun l => wL (fun p x => x.2.1 = k ∧ 1 < (kI k p).length + 1) [] l ↔ 2 ≤ (kI k l).length) ?_ (fun l x ih => ?_) l
  · exact ⟨fun h => h.elim, fun h => absurd (show 2 ≤ 0 from h) (by decide)⟩
  · rw [wL_app, ih, kI_app, List.nil_append]
    by_cases q : x.2.1 = k
    · rw [if_pos q, List.length_append]
      show _ ↔ 2 ≤ (kI k l).length + 1
      omega
    · rw [if_neg q]
      exact ⟨fun h => h.elim id (fun h => absurd h.1 q), Or.inl⟩
