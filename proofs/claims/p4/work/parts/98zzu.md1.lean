/-! the module so far, as the class sees it -/
def wL {α : Type} (f : List α → α → Prop) : List α → List α → Prop
  | _, [] => False
  | p, x :: r => f p x ∨ wL f (p ++ [x]) r
theorem wL_app {α : Type} {f : List α → α → Prop} {x : α} : ∀ {l p : List α}, wL f p (l ++ [x]) ↔ wL f p l ∨ f (p ++ l) x := by
  intro l
  induction l with
  | nil => intro p; show f p x ∨ False ↔ False ∨ f (p ++ []) x; rw [List.append_nil, or_false, false_or]
  | cons y r ih =>
    intro p
    show f p y ∨ wL f (p ++ [y]) (r ++ [x]) ↔ (f p y ∨ wL f (p ++ [y]) r) ∨ f (p ++ y :: r) x
    rw [ih, or_assoc, List.append_assoc]
    rfl
def kI (k : Nat) (l : List mImpT) : List mImpT := l.filter (fun x => decide (x.2.1 = k))
theorem kI_app {k : Nat} {l : List mImpT} {x : mImpT} : kI k (l ++ [x]) = if x.2.1 = k then kI k l ++ [x] else kI k l := by
  unfold kI
  rw [List.filter_append]
  by_cases q : x.2.1 = k
  · rw [if_pos q, List.filter_cons_of_pos (by simpa using q)]; rfl
  · rw [if_neg q, List.filter_cons_of_neg (by simpa using q), List.filter_nil, List.append_nil]
theorem kI_le {k : Nat} {l : List mImpT} : (kI k l).length ≤ l.length := List.length_filter_le _ _
def fnL (A : mA) : List Nat := (kI 0 (aI A)).map (fun x => x.2.2.2.1) ++ (aF A).map (fun x => x.2)
def gIl (l : List mImpT) : List (Nat × Nat) := (kI 3 l).map (fun x => (x.2.2.2.1, x.2.2.2.2.1))
def gOl (l : List mGlT) : List (Nat × Nat) := l.map (fun x => (x.1, x.2.1))
def glL (A : mA) : List (Nat × Nat) := gIl (aI A) ++ gOl (aG A)
def kTb (A : mA) : Nat := (kI 1 (aI A)).length + (aT A).length
def kMm (A : mA) : Nat := (kI 2 (aI A)).length + (aM A).length
def kc (A : mA) (k : Nat) : Nat := if k = 0 then (fnL A).length else if k = 1 then kTb A else if k = 2 then kMm A else if k = 3 then (glL A).length else if hasK A k = true then 1 else 0
def nmX (l : List mExT) : List (Nat × Nat) := l.map (fun x => (x.2.1, x.2.2.1))
def eA (A : mA) : tE := (fnL A, aS A, glL A, [], 0, kTb A, kMm A, (aE A).length, aC A)
def bNo (A : mA) (i : Nat) : Nat := (kI 0 (aI A)).length + i
/-- the typing of body i, whose signature is there -/
def bdR (A : mA) (i : Nat) (x : mBdT) : Bool := (cFold (bdE (eA A) (bNo A i) x) x.2.2.2.2 (true, bdT (bdG (eA A) (bNo A i)).2)).1
def bdS (A : mA) (i : Nat) : Bool := (bdSg (eA A) (bNo A i)).isSome
def allB (A : mA) : Nat → List mBdT → Bool
  | _, [] => true
  | i, x :: r => (bdS A i && bdR A i x) && allB A (i + 1) r
theorem allB_app {A : mA} {x : mBdT} : ∀ {l : List mBdT} {i : Nat}, allB A i (l ++ [x]) = (allB A i l && (bdS A (i + l.length) && bdR A (i + l.length) x)) := by
  intro l
  induction l with
  | nil => intro i; show ((bdS A i && bdR A i x) && true) = (true && _); rw [Bool.and_true, Bool.true_and]; rfl
  | cons y r ih =>
    intro i
    show ((bdS A i && bdR A i y) && allB A (i + 1) (r ++ [x])) = (((bdS A i && bdR A i y) && allB A (i + 1) r) && _)
    rw [ih, ← Bool.and_assoc, show i + 1 + r.length = i + (y :: r).length by simp only [List.length_cons]; omega]
def bdBad (A : mA) (p : List mBdT) (x : mBdT) : Prop := allB A 0 p = true ∧ bdS A p.length = true ∧ bdR A p.length x = false
def allC (l : List mBdT) : List Nat := (l.map (fun x => cds x.2.2.2.2)).flatten
theorem allC_app {l : List mBdT} {x : mBdT} : allC (l ++ [x]) = allC l ++ cds x.2.2.2.2 := by
  unfold allC
  rw [List.map_append, List.flatten_append]
  simp
/-- something in a module means nothing, part by part -/
def wIm (A : mA) : Prop := wL (fun p x => impBad (aS A).length (kI 1 p).length (kI 2 p).length x) [] (aI A)
def wFn (A : mA) : Prop := wL (fun _ x => ¬ x.2 < (aS A).length) [] (aF A)
def wTb (A : mA) : Prop := wL (fun p x => 1 < (kI 1 (aI A)).length + p.length + 1 ∨ ¬ mRight true x.2.2.1 x.2.2.2 = true) [] (aT A)
def wMm (A : mA) : Prop := wL (fun p x => 1 < (kI 2 (aI A)).length + p.length + 1 ∨ ¬ mRight false x.2.2.1 x.2.2.2 = true) [] (aM A)
def wGl (b : Nat → Nat) (E : Nat) (A : mA) : Prop := wL (fun p x => ¬ kCst (gIl (aI A) ++ gOl p) (kI 3 (aI A)).length b E x.2.2 x.1) [] (aG A)
def wEx (b : Nat → Nat) (A : mA) : Prop := wL (fun p x => ¬ x.2.2.2.2.2 < kc A x.2.2.2.1 ∨ (nmX p).any (nmHas b x.2.1 x.2.2.1) = true) [] (aX A)
def wSt (A : mA) : Prop := ∃ x, aB A = some x ∧ staBad (aS A).length (fnL A) (aS A) x.2
def wEl (b : Nat → Nat) (E : Nat) (A : mA) : Prop := wL (fun _ x => elBad (glL A) (kI 3 (aI A)).length (kTb A) (fnL A).length b E x) [] (aE A)
def wBd (A : mA) : Prop := wL (bdBad A) [] (aD A)
def wDt (b : Nat → Nat) (E : Nat) (A : mA) : Prop := wL (fun _ x => dtBad (glL A) (kI 3 (aI A)).length (kMm A) b E x) [] (aZ A)
def wW (b : Nat → Nat) (E : Nat) (A : mA) : Prop := wIm A ∨ wFn A ∨ wTb A ∨ wMm A ∨ wGl b E A ∨ wEx b A ∨ wSt A ∨ wEl b E A ∨ wBd A ∨ wDt b E A
/-- the sections' items, by number -/
def nIt (A : mA) (k : Nat) : Nat := if k = 1 then (aS A).length else if k = 2 then (aI A).length else if k = 3 then (aF A).length else if k = 4 then (aT A).length else if k = 5 then (aM A).length else if k = 6 then (aG A).length else if k = 7 then (aX A).length else if k = 8 then (aB A).toList.length else if k = 9 then (aE A).length else if k = 10 then (aD A).length else if k = 11 then (aZ A).length else if k = 12 then (aC A).toList.length else 0
def itM (s : zS) (A : mA) : Prop := ∀ k, 1 ≤ k → k ≤ 12 → s.1 18 k = nI (nIt A k)
/-- bodies: their codes, and where each one's begin, how many, and its locals -/
def cdM (s : zS) (A : mA) : Prop := cdR s (allC (aD A)) ∧ ∀ j x, (aD A)[j]? = some x → j < 64 → s.1 29 j = nI (allC ((aD A).take j)).length ∧ s.1 30 j = nI (cds x.2.2.2.2).length ∧ s.1 31 j = nI (bdL (bdG (eA A) (bNo A j)) x).length
def mBn (A : mA) : Prop := (aS A).length ≤ 64 ∧ (aI A).length ≤ 32 ∧ (aF A).length ≤ 64 ∧ (aT A).length ≤ 16000 ∧ (aM A).length ≤ 16000 ∧ (aG A).length ≤ 32 ∧ (aX A).length ≤ 64 ∧ (aE A).length ≤ 32 ∧ (aD A).length ≤ 16000 ∧ (aZ A).length ≤ 32
/-- what comes behind the section of place n in the order is empty -/
def mE0 (n : Nat) (A : mA) : Prop := (n < 1 → aS A = []) ∧ (n < 2 → aI A = []) ∧ (n < 3 → aF A = []) ∧ (n < 4 → aT A = []) ∧ (n < 5 → aM A = []) ∧ (n < 6 → aG A = []) ∧ (n < 7 → aX A = []) ∧ (n < 8 → aB A = none) ∧ (n < 9 → aE A = []) ∧ (n < 10 → aC A = none) ∧ (n < 11 → aD A = []) ∧ (n < 12 → aZ A = [])
def mdK (s : zS) (A : mA) : Prop := sgR s (aS A) ∧ cFx s (aS A).length (fnL A) (kI 0 (aI A)).length (glL A) (kI 3 (aI A)).length (kTb A) (kMm A)
def mdT (s : zS) (A : mA) : Prop := s.2 2 14 = optL (aC A) ∧ ∀ m, aC A = some m → m < 2 ^ 35
/-- the class's state, the module A read so far, n the last section's place in the order -/
def MD (s : zS) (b : Nat → Nat) (E : Nat) (A : mA) (n : Nat) : Prop := mdK s A ∧ mdT s A ∧ nmR s (nmX (aX A)) ∧ cdM s A ∧ s.1 4 6 = bI (allB A 0 (aD A)) ∧ (wr s ↔ wW b E A) ∧ itM s A ∧ s.1 3 5 = nI n ∧ (∃ k, s.2 6 4 = lN k) ∧ mBn A ∧ mE0 n A
theorem mdK_g {l : List Nat} {σ s : zS} {A : mA} (h : gF l σ s) (h1 : ¬ 1 ∈ l) (h2 : ¬ 2 ∈ l) (h3 : ¬ 3 ∈ l) (h4 : ¬ 4 ∈ l) (h5 : ¬ 5 ∈ l) (r : mdK σ A) : mdK s A := ⟨sgR_q (h.g h1) r.1, cFx_g h h2 h3 h4 h5 r.2⟩
theorem mdT_g {l : List Nat} {σ s : zS} {A : mA} (h : gF l σ s) (h6 : ¬ 6 ∈ l) (r : mdT σ A) : mdT s A := ⟨by rw [(h.g h6 2 14 rfl).2]; exact r.1, r.2⟩
theorem cdM_g {l : List Nat} {σ s : zS} {A : mA} (h : gF l σ s) (h12 : ¬ 12 ∈ l) (r : cdM σ A) : cdM s A := ⟨cdR_q (h.g h12) r.1, fun j x e hj => by rw [(h.g h12 29 j rfl).1, (h.g h12 30 j rfl).1, (h.g h12 31 j rfl).1]; exact r.2 j x e hj⟩
theorem itM_g {l : List Nat} {σ s : zS} {A : mA} (h : gF l σ s) (h8 : ¬ 8 ∈ l) (r : itM σ A) : itM s A := fun k h1 h2 => by rw [(h.g h8 18 k rfl).1]; exact r k h1 h2
/-- nothing of the module is written -/
theorem MD_g {l : List Nat} {σ s : zS} {b : Nat → Nat} {E : Nat} {A : mA} {n : Nat} (h : gF l σ s) (hl : ∀ k ∈ [1, 2, 3, 4, 5, 6, 7, 8, 9, 10, 11, 12, 14], ¬ k ∈ l) (r : MD σ b E A n) : MD s b E A n := by
  obtain ⟨r1, r2, r3, r4, r5, r6, r7, r8, r9, r10, r11⟩ := r
  refine ⟨mdK_g h (hl _ (by decide)) (hl _ (by decide)) (hl _ (by decide)) (hl _ (by decide)) (hl _ (by decide)) r1, mdT_g h (hl _ (by decide)) r2, nmR_q (h.g (hl _ (by decide))) r3, cdM_g h (hl _ (by decide)) r4, ?_, ?_, itM_g h (hl _ (by decide)) r7, ?_, ?_, r10, r11⟩
  · rw [(h.g (hl 11 (by decide)) 4 6 rfl).1]; exact r5
  · rw [wr_q (h.g (hl 7 (by decide)))]; exact r6
  · rw [(h.g (hl 10 (by decide)) 3 5 rfl).1]; exact r8
  · rw [(h.g (hl 14 (by decide)) 6 4 rfl).2]; exact r9
