/-! the typing of a row of labels -/
theorem mRow_gen {α : Type} {it : Nat → mE (α × Nat)} : ∀ (n : Nat) (l : List α) (a : Nat) (r : List α × Nat), mRow it none n l a = .ok r → ∃ t, r.1 = l ++ t ∧ t.length = n ∧ ∀ l', mRow it none n l' a = .ok (l' ++ t, r.2) := by
  intro n
  induction n with
  | zero => intro l a r h; cases h; exact ⟨[], (List.append_nil _).symm, rfl, fun l' => by rw [mRow0, List.append_nil]⟩
  | succ n ih =>
    intro l a r h
    rw [mRowS, if_neg (fun z => by cases z)] at h
    cases ho : it a with
    | error q => rw [ho] at h; cases h
    | ok q =>
      rw [ho] at h
      obtain ⟨t, e1, e2, h1⟩ := ih _ _ r h
      refine ⟨q.1 :: t, by rw [e1]; simp, by simp [e2], fun l' => ?_⟩
      rw [mRowS, if_neg (fun z => by cases z), ho]
      show mRow it none n (l' ++ [q.1]) q.2 = _
      rw [h1]
      simp
theorem mRow_cons {α : Type} {it : Nat → mE (α × Nat)} {n a z : Nat} {t : List α} (h : mRow it none (n + 1) [] a = .ok (t, z)) : ∃ q t', it a = .ok q ∧ t = q.1 :: t' ∧ mRow it none n [] q.2 = .ok (t', z) := by
  rw [mRowS, if_neg (fun z => by cases z)] at h
  cases ho : it a with
  | error q => rw [ho] at h; cases h
  | ok q =>
    rw [ho] at h
    obtain ⟨t', e1, _, h1⟩ := mRow_gen _ _ _ _ h
    exact ⟨q, t', rfl, e1, h1 []⟩
def tLabs : List Nat → Option Nat → tT → Option Nat × tT
  | [], o, t => (o, t)
  | x :: r, o, t => tLabs r (some (tLabel x t).1) (tNeed (decide (o = none) || decide (o = some (tLabel x t).1)) (tLabel x t).2)
def optI (o : Option Nat) : Int32 := match o with
  | some n => nI n
  | none => -1
def tRow (l : List Nat) (t : tT) : tT := tRest (tTake ((tLabs l none t).1.getD 2) (tTake 0 (tLabs l none t).2).2).2
theorem sp_labelRow {τ σ s : zS} {B : Nat} {b : Nat → Nat} {e a z : Nat} {u : Nat × Nat} {l : List Nat} {t : tT} {K : zS → Prop} {QX : zS → Prop} (hs : tSt τ σ s B b e a t) (hf : ¬ t.2.1 = []) (hu : mU b e a = .ok u) (hn : u.1 ≤ 256) (hl : mRow (mU b e) none (u.1 + 1) [] u.2 = .ok (l, z))
    (h : ∀ s', tSt τ σ s' B b e z (tRow l t) → K s') : zCT zZM zmX10_labelRow [.ref 0] s (zQv K) QX := by
  refine rX10_labelRow (fun m x1 x3 x4 w => ∃ j p o t' r, m + j = u.1 + 1 ∧ x1 = lN u.1 ∧ x3 = optI o ∧ (∀ k, o = some k → k ≤ 2) ∧ (j = 0 ∨ ¬ o = none) ∧ x4 = lN j ∧ p ≤ e ∧ mRow (mU b e) none m [] p = .ok (r, z) ∧ tSt τ σ w B b e p t' ∧ ¬ t'.2.1 = [] ∧ tLabs r o t' = tLabs l none t) ?_ ?_
  · rintro m x1 x3 x4 w ⟨j, p, o, t', r, hm, rfl, rfl, ho, hj, rfl, hp, hr, hw, hf', ht⟩
    unfold PX10_labelRow_10
    have c1 : lN u.1 < lN j ↔ u.1 < j := pk_lLT (by omega) (by omega)
    rw [c1]
    refine ⟨fun q => ?_, fun q => ?_⟩
    · have : m = 0 := by omega
      subst this
      cases hr
      have ht : (o, t') = tLabs l none t := ht
      cases o with
      | none => exact absurd rfl (by rcases hj with z | z; omega; exact z)
      | some k =>
        have hk := ho k rfl
        refine sp_takes (n := 0) hw (by decide) hf' (fun _ s1 hs1 => ?_)
        refine sp_takes (n := k) hs1 (by omega) (by rw [tTake_f]; exact hf') (fun _ s2 hs2 => ?_)
        refine sp_rest hs2 (by rw [tTake_f, tTake_f]; exact hf') (fun s3 hs3 => ?_)
        refine h s3 ?_
        unfold tRow
        rw [← ht]
        exact hs3
    · obtain ⟨m', rfl⟩ : ∃ z, m = z + 1 := ⟨m - 1, by omega⟩
      obtain ⟨v, r', hv, rfl, hr'⟩ := mRow_cons hr
      have v1 := mU_in hv hp
      have v2 := mU_lt hv
      refine sp_u hw.1 ?_
      rw [hv]
      have hw1 := hw.at v1.2
      refine sp_label hw1 v2 (fun hk s1 hs1 => ?_)
      have hfr : (tLabel v.1 t').2.2.1 = t'.2.1 := rfl
      have fin : ∀ c s2, c = (decide (o = none) || decide (o = some (tLabel v.1 t').1)) → tSt τ σ s2 B b e v.2 (tNeed c (tLabel v.1 t').2) →
          ∃ n', zlt n' (some (m' + 1)) ∧ ∃ j' p' o' t'' r, n' + j' = u.1 + 1 ∧ lN u.1 = lN u.1 ∧ nI (tLabel v.1 t').1 = optI o' ∧ (∀ k, o' = some k → k ≤ 2) ∧ (j' = 0 ∨ ¬ o' = none) ∧ lN j + (1 : Int64) = lN j' ∧ p' ≤ e ∧ mRow (mU b e) none n' [] p' = .ok (r, z) ∧ tSt τ σ s2 B b e p' t'' ∧ ¬ t''.2.1 = [] ∧ tLabs r o' t'' = tLabs l none t := fun c s2 hc hs2 =>
        ⟨m', Nat.lt_succ_self _, j + 1, v.2, some (tLabel v.1 t').1, tNeed c (tLabel v.1 t').2, r', by omega, rfl, rfl, fun k e => by cases e; exact hk, Or.inr (fun z => by cases z), lN_1 j, v1.2, hr', hs2, by show ¬ t'.2.1 = []; exact hf', by rw [← ht, hc]; rfl⟩
      cases o with
      | none =>
        refine ⟨fun _ => ?_, fun q1 => absurd (show optI none < 0 by decide) q1⟩
        exact sp_need (c := true) hs1 rfl (fun s2 hs2 => fin true s2 (by simp) hs2)
      | some k =>
        have hk2 := ho k rfl
        have c0 : nI k < (0 : Int32) ↔ k < 0 := nI_ltI (b := 0) (by omega) (by decide)
        have c2 : nI (tLabel v.1 t').1 = nI k ↔ (tLabel v.1 t').1 = k := nI_eq (by omega) (by omega)
        show (nI k < 0 → _) ∧ (¬ nI k < 0 → (nI (tLabel v.1 t').1 = nI k → _) ∧ (¬ nI (tLabel v.1 t').1 = nI k → _))
        rw [c0, c2]
        refine ⟨fun q1 => absurd q1 (Nat.not_lt_zero _), fun _ => ⟨fun q1 => ?_, fun q1 => ?_⟩⟩
        · exact sp_need (c := true) hs1 rfl (fun s2 hs2 => fin true s2 (by rw [q1]; simp) hs2)
        · exact sp_need (c := false) hs1 rfl (fun s2 hs2 => fin false s2 (by simp; exact fun z => q1 z.symm) hs2)
  · unfold PX10_labelRow_0
    have u1 := mU_in hu hs.1.2.2.2.2.1
    refine sp_u hs.1 ?_
    rw [hu]
    exact ⟨u.1 + 1, trivial, 0, u.2, none, t, l, rfl, rfl, rfl, fun k e => (by cases e), Or.inl rfl, rfl, u1.2, hl, hs.at u1.2, hf, rfl⟩
