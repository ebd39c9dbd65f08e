/-! the typing's labels, ends, calls -/
theorem tTake_f (n : Nat) (t : tT) : (tTake n t).2.2.1 = t.2.1 := by
  unfold tTake
  by_cases q : n = 2
  · rw [if_pos q]
  · rw [if_neg q]
    by_cases q2 : t.1.length = tBase t
    · rw [if_pos q2]
    · rw [if_neg q2]
theorem tTake_len (n : Nat) (t : tT) : (tTake n t).2.1.length ≤ t.1.length := by
  unfold tTake
  by_cases q : n = 2
  · rw [if_pos q]; exact Nat.le_refl _
  · rw [if_neg q]
    by_cases q2 : t.1.length = tBase t
    · rw [if_pos q2]; exact Nat.le_refl _
    · rw [if_neg q2]; show t.1.tail.length ≤ _; rw [List.length_tail]; omega
def tf0 : tF := (0, 2, 2, 0, false)
theorem fsR_get {s : zS} : ∀ {l : List tF} {n : Nat}, fsR s n l → ∀ k, k < l.length → s.1 8 (l.length - 1 - k) = nI (l.getD k tf0).2.1 ∧ (l.getD k tf0).2.1 ≤ 2 := by
  intro l
  induction l with
  | nil => intro n _ k hk; exact absurd hk (Nat.not_lt_zero _)
  | cons f r ih =>
    intro n h k hk
    obtain ⟨a1, a2, a3, a4, a5, a6, a7, a8, a9, a10⟩ := h
    cases k with
    | zero => exact ⟨a2, a7⟩
    | succ k =>
      simp only [List.length_cons] at hk ⊢
      have e : r.length + 1 - 1 - (k + 1) = r.length - 1 - k := by omega
      rw [e, List.getD_cons_succ]
      exact ih a10 k (by omega)
def tLabel (k : Nat) (t : tT) : Nat × tT := (if k < t.2.1.length then (t.2.1.getD k tf0).2.1 else 2, tNeed (decide (k < t.2.1.length)) t)
theorem sp_label {τ σ s : zS} {B : Nat} {b : Nat → Nat} {e a k : Nat} {t : tT} {K : Int32 → zS → Prop} {QX : zS → Prop} (hs : tSt τ σ s B b e a t) (hk : k < 2 ^ 35) (h : (tLabel k t).1 ≤ 2 → ∀ s', tSt τ σ s' B b e a (tLabel k t).2 → K (nI (tLabel k t).1) s') : zCT zZM zmX10_label [.ref 0, .long (lN k)] s (zQi K) QX := by
  refine rX10_label ?_
  unfold PX10_label_0
  have g3 := hs.2.2.2.2.1
  have g4 := hs.2.2.2.2.2.1
  have c1 : (nI t.2.1.length).toInt64 ≤ lN k ↔ t.2.1.length ≤ k := by rw [nI_l (by omega)]; exact lN_leB (by omega) (by omega)
  rw [g3, c1]
  refine ⟨fun q => ?_, fun q => ?_⟩
  · refine sp_need (c := false) hs rfl (fun s1 hs1 => ?_)
    have g3' : s1.1 0 28 = nI t.2.1.length := hs1.2.2.2.2.1
    rw [g3', c1]
    refine ⟨fun _ => ?_, fun z => absurd q z⟩
    unfold tLabel at h
    rw [if_neg (by omega), decide_eq_false (by omega)] at h
    exact h (Nat.le_refl _) s1 hs1
  · refine sp_need (c := true) hs rfl (fun s1 hs1 => ?_)
    have g3' : s1.1 0 28 = nI t.2.1.length := hs1.2.2.2.2.1
    rw [g3', c1]
    refine ⟨fun z => absurd z q, fun _ => ?_⟩
    have hg := fsR_get hs1.2.2.2.2.2.2.2.2 k (show k < t.2.1.length by omega)
    have e1 : nI t.2.1.length - (1 : Int32) = nI (t.2.1.length - 1) := pk_sub (b := 1) (by omega)
    have e2 : nI (t.2.1.length - 1) - nI k = nI (t.2.1.length - 1 - k) := pk_sub (by omega)
    unfold tLabel at h
    rw [if_pos (by omega), decide_eq_true (by omega)] at h
    rw [e1, lN_i, e2, nI_clamp (by omega)]
    refine ⟨vp_in_nI (by omega) (by decide), ?_⟩
    have hg1 : s1.1 8 (t.2.1.length - 1 - k) = nI (t.2.1.getD k tf0).2.1 := hg.1
    rw [hg1]
    exact h hg.2 s1 hs1
def tRes (t : tT) : Nat := match t.2.1 with
  | [] => 2
  | f :: _ => f.2.2.1
def tClose (t : tT) : tT := tNeed (decide ((tTake (tRes t) t).2.1.length = tBase t)) (tTake (tRes t) t).2
theorem tTake_b (n : Nat) (t : tT) : tBase (tTake n t).2 = tBase t := by
  unfold tBase
  rw [tTake_f]
theorem tR_top {τ σ s : zS} {B : Nat} {b : Nat → Nat} {e a : Nat} {t : tT} (hs : tSt τ σ s B b e a t) (hf : ¬ t.2.1 = []) : s.1 10 (t.2.1.length - 1) = nI (tBase t) ∧ tBase t ≤ t.1.length ∧ s.1 9 (t.2.1.length - 1) = nI (tRes t) ∧ tRes t ≤ 2 := by
  have g7 := hs.2.2.2.2.2.2.2.2
  obtain ⟨T, F, g⟩ := t
  cases F with
  | nil => exact absurd rfl hf
  | cons f r =>
    obtain ⟨a1, a2, a3, a4, a5, a6, a7, a8, a9, a10⟩ := g7
    exact ⟨a4, a9, a3, a8⟩
theorem sp_closes {τ σ s : zS} {B : Nat} {b : Nat → Nat} {e a : Nat} {t : tT} {K : zS → Prop} {QX : zS → Prop} (hs : tSt τ σ s B b e a t) (hf : ¬ t.2.1 = []) (h : ∀ s', tSt τ σ s' B b e a (tClose t) → K s') : zCT zZM zmX10_closes [.ref 0] s (zQv K) QX := by
  refine rX10_closes ?_
  unfold PX10_closes_0
  have g3 := hs.2.2.2.2.1
  have g4 := hs.2.2.2.2.2.1
  have hlen : 0 < t.2.1.length := by
    cases hq : t.2.1 with
    | nil => exact absurd hq hf
    | cons f r => simp
  have e1 : nI t.2.1.length - (1 : Int32) = nI (t.2.1.length - 1) := pk_sub (b := 1) (by omega)
  have vf : vp_in (nI (t.2.1.length - 1)) 61 := vp_in_nI (by omega) (by decide)
  have ht := tR_top hs hf
  rw [g3, e1, nI_clamp (by omega), ht.2.2.1]
  refine ⟨vf, sp_takes hs (by omega) hf (fun _ s1 hs1 => ?_)⟩
  have hf1 : ¬ (tTake (tRes t) t).2.2.1 = [] := by rw [tTake_f]; exact hf
  have ht1 := tR_top hs1 hf1
  rw [tTake_f, tTake_b] at ht1
  have g31 : s1.1 0 28 = nI t.2.1.length := by have := hs1.2.2.2.2.1; rw [tTake_f] at this; exact this
  have g11 : s1.1 0 22 = nI (tTake (tRes t) t).2.1.length := hs1.2.2.1
  have g21 : (tTake (tRes t) t).2.1.length ≤ 16000 := hs1.2.2.2.1
  have hle := ht.2.1
  have g2 := hs.2.2.2.1
  have cb : nI (tTake (tRes t) t).2.1.length = nI (tBase t) ↔ (tTake (tRes t) t).2.1.length = tBase t := nI_eq (by omega) (by omega)
  rw [g31, e1, nI_clamp (by omega), ht1.1, g11, cb]
  unfold tClose at h
  refine ⟨vf, fun q => ?_, fun q => ?_⟩
  · rw [decide_eq_true q] at h
    exact sp_need (c := true) hs1 rfl h
  · rw [decide_eq_false q] at h
    exact sp_need (c := false) hs1 rfl h
def tTakeL : List Nat → tT → tT
  | [], t => t
  | x :: r, t => tTakeL r (tTake x t).2
theorem tTakeL_f : ∀ (l : List Nat) (t : tT), (tTakeL l t).2.1 = t.2.1 := by
  intro l
  induction l with
  | nil => intro t; rfl
  | cons x r ih => intro t; show (tTakeL r (tTake x t).2).2.1 = _; rw [ih, tTake_f]
theorem tTakeL_len : ∀ (l : List Nat) (t : tT), (tTakeL l t).1.length ≤ t.1.length := by
  intro l
  induction l with
  | nil => intro t; exact Nat.le_refl _
  | cons x r ih => intro t; exact Nat.le_trans (ih _) (tTake_len x t)
def tCalls (s : mSigT) (t : tT) : tT := tGive s.2 (tTakeL s.1.reverse t)
theorem sp_calls {τ σ s : zS} {B : Nat} {b : Nat → Nat} {e a : Nat} {t : tT} {g : mSigT} {K : zS → Prop} {QX : zS → Prop} (hs : tSt τ σ s B b e a t) (hg : sigOk g) (hf : ¬ t.2.1 = []) (hl : t.1.length < 16000) (h : ∀ s', tSt τ σ s' B b e a (tCalls g t) → K s') : zCT zZM zmX10_calls [.ref 0, .int (nI (sigC g))] s (zQv K) QX := by
  have h16 := hg.1
  refine rX10_calls (fun m x1 x2 u => ∃ t', m ≤ g.1.length ∧ x1 = nI (sigC g) ∧ x2 = nI m - (1 : Int32) ∧ tSt τ σ u B b e a t' ∧ ¬ t'.2.1 = [] ∧ t'.1.length < 16000 ∧ tTakeL (g.1.take m).reverse t' = tTakeL g.1.reverse t) ?_ ?_
  · rintro m x1 x2 u ⟨t', hm, rfl, rfl, hu, hf', hl', ht⟩
    unfold PX10_calls_7
    cases m with
    | zero =>
      refine ⟨fun _ => ?_, fun q => absurd (show nI 0 - (1 : Int32) < 0 by decide) q⟩
      refine sp_resultOf hg ?_
      have ht : t' = tTakeL g.1.reverse t := by simpa [tTakeL] using ht
      refine sp_gives hu (by have := hg.2.2; omega) hl' (fun s' hs' => h s' ?_)
      unfold tCalls
      rw [← ht]; exact hs'
    | succ m =>
      rw [nI_sub1]
      have c0 : nI m < (0 : Int32) ↔ m < 0 := nI_ltI (b := 0) (by omega) (by decide)
      rw [c0]
      refine ⟨fun q => absurd q (Nat.not_lt_zero _), fun _ => ?_⟩
      refine sp_parameter hg (by omega) ?_
      have hp : g.1.getD m 0 ≤ 1 := by
        rw [List.getD_eq_getElem?_getD, List.getElem?_eq_getElem (show m < g.1.length by omega)]
        exact hg.2.1 _ (List.getElem_mem _)
      refine sp_takes hu (by omega) hf' (fun _ s1 hs1 => ?_)
      refine ⟨m, Nat.lt_succ_self m, _, by omega, rfl, (Int32.sub_eq_add_neg _ _).symm, hs1, by rw [tTake_f]; exact hf', Nat.lt_of_le_of_lt (tTake_len _ _) hl', ?_⟩
      rw [← ht]
      have e : (g.1.take (m + 1)).reverse = g.1.getD m 0 :: (g.1.take m).reverse := by
        rw [List.take_add_one, List.getD_eq_getElem?_getD, List.getElem?_eq_getElem (show m < g.1.length by omega)]
        simp
      rw [e]
      rfl
  · unfold PX10_calls_0
    refine sp_parameters hg ?_
    exact ⟨g.1.length, trivial, t, Nat.le_refl _, rfl, rfl, hs, hf, hl, by rw [List.take_length]⟩
def tTurns (from_ n to : Nat) (t : tT) : tT := tGive to (tTakeL (List.replicate n from_) t)
theorem sp_turns {τ σ s : zS} {B : Nat} {b : Nat → Nat} {e a fr n to : Nat} {t : tT} {K : zS → Prop} {QX : zS → Prop} (hs : tSt τ σ s B b e a t) (hfr : fr ≤ 3) (hn : n ≤ 3) (hto : to ≤ 3) (hf : ¬ t.2.1 = []) (hl : t.1.length < 16000) (h : ∀ s', tSt τ σ s' B b e a (tTurns fr n to t) → K s') : zCT zZM zmX10_turns [.ref 0, .int (nI fr), .int (nI n), .int (nI to)] s (zQv K) QX := by
  refine rX10_turns (fun m x1 x2 x3 x4 u => ∃ t' j, m + j = n ∧ x1 = nI fr ∧ x2 = nI n ∧ x3 = nI to ∧ x4 = nI j ∧ tSt τ σ u B b e a t' ∧ ¬ t'.2.1 = [] ∧ t'.1.length < 16000 ∧ tTakeL (List.replicate m fr) t' = tTakeL (List.replicate n fr) t) ?_ ?_
  · rintro m x1 x2 x3 x4 u ⟨t', j, hm, rfl, rfl, rfl, rfl, hu, hf', hl', ht⟩
    unfold PX10_turns_3
    have c1 : nI n ≤ nI j ↔ n ≤ j := nI_leI (by omega) (by omega)
    rw [c1]
    refine ⟨fun q => ?_, fun q => ?_⟩
    · have : m = 0 := by omega
      subst this
      have ht : t' = tTakeL (List.replicate n fr) t := ht
      refine sp_gives hu hto hl' (fun s' hs' => h s' ?_)
      unfold tTurns
      rw [← ht]; exact hs'
    · obtain ⟨m', rfl⟩ : ∃ z, m = z + 1 := ⟨m - 1, by omega⟩
      refine sp_takes hu hfr hf' (fun _ s1 hs1 => ?_)
      exact ⟨m', Nat.lt_succ_self m', _, j + 1, by omega, rfl, rfl, rfl, nI_1 j, hs1, by rw [tTake_f]; exact hf', Nat.lt_of_le_of_lt (tTake_len _ _) hl', ht⟩
  · unfold PX10_turns_0
    exact ⟨n, trivial, t, 0, rfl, rfl, rfl, rfl, rfl, hs, hf, hl, rfl⟩
