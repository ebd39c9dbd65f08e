/-! the typing state: types (the top first), frames (the innermost first), whether all is good -/
/-- with, label, result, base, open -/
abbrev tF : Type := Nat × Nat × Nat × Nat × Bool
abbrev tT : Type := List Nat × List tF × Bool
def tGive (n : Nat) (t : tT) : tT := if n = 2 then t else (n :: t.1, t.2.1, t.2.2)
def tBase (t : tT) : Nat := match t.2.1 with
  | [] => 0
  | f :: _ => f.2.2.2.1
def tOpen (t : tT) : Bool := match t.2.1 with
  | [] => false
  | f :: _ => f.2.2.2.2
def tTake (n : Nat) (t : tT) : Nat × tT := if n = 2 then (2, t) else if t.1.length = tBase t then (3, (t.1, t.2.1, t.2.2 && tOpen t))
  else (t.1.headD 0, (t.1.tail, t.2.1, t.2.2 && (decide (t.1.headD 0 = n) || decide (t.1.headD 0 = 3) || decide (n = 3))))
def tNeed (c : Bool) (t : tT) : tT := (t.1, t.2.1, t.2.2 && c)
def tRest (t : tT) : tT := match t.2.1 with
  | [] => t
  | f :: r => (t.1.drop (t.1.length - f.2.2.2.1), (f.1, f.2.1, f.2.2.1, f.2.2.2.1, true) :: r, t.2.2)
def tFrame (w l r : Nat) (t : tT) : tT := (t.1, (w, l, r, t.1.length, false) :: t.2.1, t.2.2)
def tsR (s : zS) : List Nat → Prop
  | [] => True
  | x :: r => s.1 7 r.length = nI x ∧ x ≤ 3 ∧ tsR s r
def fsR (s : zS) : Nat → List tF → Prop
  | _, [] => True
  | n, f :: r => s.1 11 r.length = nI f.1 ∧ s.1 8 r.length = nI f.2.1 ∧ s.1 9 r.length = nI f.2.2.1 ∧ s.1 10 r.length = nI f.2.2.2.1 ∧ s.1 12 r.length = bI f.2.2.2.2 ∧ f.1 ≤ 5 ∧ f.2.1 ≤ 2 ∧ f.2.2.1 ≤ 2 ∧ f.2.2.2.1 ≤ n ∧ fsR s f.2.2.2.1 r
def tR (s : zS) (t : tT) : Prop := s.1 0 22 = nI t.1.length ∧ t.1.length ≤ 16000 ∧ s.1 0 28 = nI t.2.1.length ∧ t.2.1.length ≤ 61 ∧ s.1 0 31 = bI t.2.2 ∧ tsR s t.1 ∧ fsR s t.1.length t.2.1
/-- only the typing's places and the reader's place are written -/
def tyC (c i : Nat) : Prop := (7 ≤ c ∧ c ≤ 12) ∨ (c = 0 ∧ (i = 12 ∨ i = 22 ∨ i = 28 ∨ i = 31))
def yK (σ s : zS) : Prop := ∀ c i, ¬ tyC c i → s.1 c i = σ.1 c i ∧ s.2 c i = σ.2 c i
theorem yK.rf {σ : zS} : yK σ σ := fun _ _ _ => ⟨rfl, rfl⟩
theorem yK.i {σ s : zS} (h : yK σ s) {c j : Nat} (x : Int32) (hc : tyC c j) : yK σ (zsI s c j x) := fun a i h1 => ⟨by rw [zI1, if_neg (fun q => h1 (by rw [q.1, q.2]; exact hc))]; exact (h a i h1).1, (h a i h1).2⟩
theorem yK.at {σ s : zS} (h : yK σ s) (x : Nat) : yK σ (mAt s x) := h.i _ (by unfold tyC; omega)
theorem tsR_i {s : zS} {c j : Nat} {v : Int32} : ∀ {l : List Nat}, (c = 7 → l.length ≤ j) → tsR s l → tsR (zsI s c j v) l := by
  intro l
  induction l with
  | nil => intro _ _; trivial
  | cons x r ih =>
    intro hj h
    simp only [List.length_cons] at hj
    exact ⟨by rw [zI1, if_neg (fun q => by have := hj q.1.symm; omega)]; exact h.1, h.2.1, ih (fun q => by have := hj q; omega) h.2.2⟩
theorem tsR_tail {s : zS} {x : Nat} {r : List Nat} (h : tsR s (x :: r)) : tsR s r := h.2.2
theorem tsR_drop {s : zS} : ∀ (n : Nat) {l : List Nat}, tsR s l → tsR s (l.drop n) := by
  intro n
  induction n with
  | zero => intro l h; exact h
  | succ n ih =>
    intro l h
    cases l with
    | nil => trivial
    | cons x r => exact ih h.2.2
theorem fsR_i {s : zS} {c j : Nat} {v : Int32} : ∀ {l : List tF} {n : Nat}, (8 ≤ c ∧ c ≤ 12 → l.length ≤ j) → fsR s n l → fsR (zsI s c j v) n l := by
  intro l
  induction l with
  | nil => intro n _ _; trivial
  | cons f r ih =>
    intro n hj h
    simp only [List.length_cons] at hj
    have g : ∀ d, 8 ≤ d ∧ d ≤ 12 → (zsI s c j v).1 d r.length = s.1 d r.length := fun d hd => by
      rw [zI1, if_neg (fun q => by have := hj (by omega); omega)]
    obtain ⟨a1, a2, a3, a4, a5, a6⟩ := h
    exact ⟨by rw [g 11 (by omega)]; exact a1, by rw [g 8 (by omega)]; exact a2, by rw [g 9 (by omega)]; exact a3, by rw [g 10 (by omega)]; exact a4, by rw [g 12 (by omega)]; exact a5, a6.1, a6.2.1, a6.2.2.1, a6.2.2.2.1, ih (fun q => by have := hj q; omega) a6.2.2.2.2⟩
theorem fsR_le {s : zS} {n m : Nat} (h : n ≤ m) : ∀ {l : List tF}, fsR s n l → fsR s m l := by
  intro l hl
  cases l with
  | nil => trivial
  | cons f r =>
    obtain ⟨a1, a2, a3, a4, a5, a6, a7, a8, a9, a10⟩ := hl
    exact ⟨a1, a2, a3, a4, a5, a6, a7, a8, by omega, a10⟩
/-- a state of the check of a body -/
def tSt (τ σ s : zS) (B : Nat) (b : Nat → Nat) (e a : Nat) (t : tT) : Prop := mSt τ s B b e a ∧ yK σ s ∧ tR s t
theorem tSt.at {τ σ s : zS} {B : Nat} {b : Nat → Nat} {e a a' : Nat} {t : tT} (h : tSt τ σ s B b e a t) (ha : a' ≤ e) : tSt τ σ (mAt s (B + a')) B b e a' t := by
  obtain ⟨h1, h2, g1, g2, g3, g4, g5, g6, g7⟩ := h
  refine ⟨h1.at ha, h2.at _, ?_, g2, ?_, g4, ?_, tsR_i (fun q => by omega) g6, fsR_i (fun q => by omega) g7⟩
  · rw [mAt, zI1, if_neg (by omega)]; exact g1
  · rw [mAt, zI1, if_neg (by omega)]; exact g3
  · rw [mAt, zI1, if_neg (by omega)]; exact g5
theorem tSt.good {τ σ s : zS} {B : Nat} {b : Nat → Nat} {e a : Nat} {t : tT} (h : tSt τ σ s B b e a t) (c : Bool) : tSt τ σ (zsI s 0 31 (bI c)) B b e a (t.1, t.2.1, c) := by
  obtain ⟨h1, h2, g1, g2, g3, g4, g5, g6, g7⟩ := h
  refine ⟨h1.i _ (by unfold kpd; omega) (by omega), h2.i _ (by unfold tyC; omega), ?_, g2, ?_, g4, ?_, tsR_i (fun q => by omega) g6, fsR_i (fun q => by omega) g7⟩
  · rw [zI1, if_neg (by omega)]; exact g1
  · rw [zI1, if_neg (by omega)]; exact g3
  · rw [zI1, if_pos ⟨rfl, rfl⟩]
theorem sp_need {τ σ s : zS} {B : Nat} {b : Nat → Nat} {e a : Nat} {t : tT} {c : Bool} {w : Int32} {K : zS → Prop} {QX : zS → Prop} (hs : tSt τ σ s B b e a t) (hw : w = bI c) (h : ∀ s', tSt τ σ s' B b e a (tNeed c t) → K s') : zCT zZM zmX10_need [.ref 0, .int w] s (zQv K) QX := by
  refine rX10_need ?_
  unfold PX10_need_0
  rw [hw, hs.2.2.2.2.2.2.1, bI_0, bI_0]
  refine ⟨fun q => ⟨Or.inl rfl, fun s1 e1 => ?_⟩, fun q => ⟨fun q2 => ⟨Or.inl rfl, fun s1 e1 => ?_⟩, fun q2 => ⟨Or.inr rfl, fun s1 e1 => ?_⟩⟩⟩
  · refine h s1 ?_
    have g := hs.good false
    rw [e1]; unfold tNeed; rw [q]; exact g
  · refine h s1 ?_
    have g := hs.good false
    rw [e1]; unfold tNeed; rw [q2, Bool.and_false]; exact g
  · refine h s1 ?_
    have g := hs.good true
    have q1 : t.2.2 = true := by simpa using q
    have q3 : c = true := by simpa using q2
    rw [e1]; unfold tNeed; rw [q1, q3]; exact g
theorem nar_byte : ∀ n, n ≤ 3 → vp_nar .byte ((nI n).toInt8.toInt32) = nI n := by decide +kernel
theorem sp_gives {τ σ s : zS} {B : Nat} {b : Nat → Nat} {e a n : Nat} {t : tT} {K : zS → Prop} {QX : zS → Prop} (hs : tSt τ σ s B b e a t) (hn : n ≤ 3) (hl : t.1.length < 16000) (h : ∀ s', tSt τ σ s' B b e a (tGive n t) → K s') : zCT zZM zmX10_gives [.ref 0, .int (nI n)] s (zQv K) QX := by
  refine rX10_gives ?_
  unfold PX10_gives_0
  obtain ⟨h1, h2, g1, g2, g3, g4, g5, g6, g7⟩ := id hs
  have c2 : nI n = (2 : Int32) ↔ n = 2 := nI_eq (b := 2) (by omega) (by decide)
  rw [c2, g1, nI_clamp (by omega), nar_byte n hn]
  refine ⟨fun q => ?_, fun q => ⟨vp_in_nI (by omega) (by decide), fun s1 e1 s2 e2 => ?_⟩⟩
  · unfold tGive at h
    rw [if_pos q] at h
    exact h s hs
  · unfold tGive at h
    rw [if_neg q] at h
    have n1 : s1.1 0 22 = nI t.1.length := by rw [e1, zI1, if_neg (by omega)]; exact g1
    rw [n1, nI_1] at e2
    refine h s2 ⟨?_, ?_, ?_, by show t.1.length + 1 ≤ 16000; omega, ?_, g4, ?_, ⟨?_, hn, ?_⟩, ?_⟩
    · rw [e2, e1]; exact (h1.i _ (by unfold kpd; omega) (by omega)).i _ (by unfold kpd; omega) (by omega)
    · rw [e2, e1]; exact (h2.i _ (by unfold tyC; omega)).i _ (by unfold tyC; omega)
    · rw [e2, zI1, if_pos ⟨rfl, rfl⟩]; rfl
    · rw [e2, zI1, if_neg (by omega), e1, zI1, if_neg (by omega)]; exact g3
    · rw [e2, zI1, if_neg (by omega), e1, zI1, if_neg (by omega)]; exact g5
    · rw [e2, zI1, if_neg (by omega), e1, zI1, if_pos ⟨rfl, rfl⟩]
    · rw [e2, e1]; exact tsR_i (fun q => by omega) (tsR_i (fun _ => Nat.le_refl _) g6)
    · rw [e2, e1]; exact fsR_le (by show t.1.length ≤ t.1.length + 1; omega) (fsR_i (fun q => by omega) (fsR_i (fun q => by omega) g7))
