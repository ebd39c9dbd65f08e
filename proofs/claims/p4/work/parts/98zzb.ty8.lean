/-! the turn of frames: what the blocks were opened with stands in any case, the types where they are followed -/
def owC (s : zS) : List Nat → Prop
  | [] => s.1 21 0 = nI 2
  | x :: r => s.1 21 (r.length + 1) = nI x ∧ x ≤ 5 ∧ owC s r
theorem owC_i {s : zS} {c j : Nat} {v : Int32} : ∀ {l : List Nat}, (c = 21 → l.length < j) → owC s l → owC (zsI s c j v) l := by
  intro l
  induction l with
  | nil =>
    intro h q
    show (zsI s c j v).1 21 0 = nI 2
    rw [zI1, if_neg (fun z => by have := h z.1.symm; simp at this; omega)]
    exact q
  | cons x r ih =>
    intro h q
    refine ⟨?_, q.2.1, ih (fun z => by have := h z; simp at this; omega) q.2.2⟩
    rw [zI1, if_neg (fun z => by have := h z.1.symm; simp at this; omega)]
    exact q.1
theorem owC_q {σ s : zS} (h : ∀ i, s.1 21 i = σ.1 21 i) : ∀ {l : List Nat}, owC σ l → owC s l := by
  intro l
  induction l with
  | nil => intro q; show s.1 21 0 = nI 2; rw [h]; exact q
  | cons x r ih => intro q; exact ⟨by rw [h]; exact q.1, q.2.1, ih q.2.2⟩
theorem owC_0 {s : zS} : ∀ {l : List Nat}, owC s l → s.1 21 0 = nI 2 := by
  intro l
  induction l with
  | nil => intro q; exact q
  | cons x r ih => intro q; exact ih q.2.2
theorem ty_open {s : zS} {ow : List Nat} {w r : Nat} {x y : Int32} {K : zS → Prop} {QX : zS → Prop} (hv : sV s) (hd : s.1 5 5 = nI ow.length) (ho : owC s ow) (hl : ow.length < 60) (hw : 2 ≤ w ∧ w ≤ 4) (hr : r ≤ 2) (hx : x = nI w) (hy : y = nI (tyN r))
    (h : ∀ s', gF [13] s s' → sV s' → s'.1 5 5 = nI (ow.length + 1) → owC s' (w :: ow) → s'.1 22 0 = s.1 22 0 → (∀ t, tS s t → t.2.1.length = ow.length + 1 → tS s' (tFrame w (if w = 3 then 2 else r) r t)) → K s') : zCT zZC zmX3_open [.ref 5, .int x, .int y] s (zQv K) QX := by
  refine rX3_open ?_
  unfold PX3_open_0
  rw [hd, nI_1, hx, hy]
  have k0 : sR s s := sR.rf hv
  refine ⟨fun z => absurd z (fun z => nI_pos (n := ow.length) (by omega) (Int32.lt_trans z (by decide))), fun _ => ⟨fun z => absurd ((nI_leI (by decide) (by omega)).1 z) (by omega), fun _ s1 e1 => ?_⟩⟩
  have n1 : s1.1 5 5 = nI (ow.length + 1) := by rw [e1, zI1, if_pos ⟨rfl, rfl⟩]
  rw [n1, nI_clamp (by omega)]
  refine ⟨vp_in_nI (by omega) (by decide), fun s2 e2 => ?_⟩
  have n2 : s2.1 5 5 = nI (ow.length + 1) := by rw [e2, zI1, if_neg (by omega)]; exact n1
  rw [n2, nI_clamp (by omega)]
  refine ⟨vp_in_nI (by omega) (by decide), fun s3 e3 => ?_⟩
  have n3 : s3.1 5 5 = nI (ow.length + 1) := by rw [e3, zI1, if_neg (by omega)]; exact n2
  rw [n3, nI_clamp (by omega)]
  refine ⟨vp_in_nI (by omega) (by decide), fun s4 e4 => ?_⟩
  have n4 : s4.1 5 5 = nI (ow.length + 1) := by rw [e4, zI1, if_neg (by omega)]; exact n3
  rw [n4, nI_clamp (by omega)]
  refine ⟨vp_in_nI (by omega) (by decide), fun s5 e5 => ?_⟩
  have n5 : s5.1 5 5 = nI (ow.length + 1) := by rw [e5, zI1, if_neg (by omega)]; exact n4
  have k1 : sR s s1 := by rw [e1]; exact k0.d _ (by rw [nI_toInt (by omega)]; omega)
  have k5 : sR s s5 := by rw [e5, e4, e3, e2]; exact (((k1.i _ (by omega)).i _ (by omega)).i _ (by omega)).i _ (by omega)
  have m13 : ∀ c i, c = 5 ∨ (21 ≤ c ∧ c ≤ 25) → cown c i ∈ [13] := fun c i hc => by
    have e : cown c i = 13 := by
      have q : c = 5 ∨ c = 21 ∨ c = 22 ∨ c = 23 ∨ c = 24 ∨ c = 25 := by omega
      rcases q with rfl | rfl | rfl | rfl | rfl | rfl <;> rfl
    rw [e]; exact List.mem_singleton.2 rfl
  have g5 : gF [13] s s5 := by
    rw [e5, e4, e3, e2, e1]
    exact ((((gF.rf.i _ (m13 _ _ (by omega))).i _ (m13 _ _ (by omega))).i _ (m13 _ _ (by omega))).i _ (m13 _ _ (by omega))).i _ (m13 _ _ (by omega))
  refine h s5 g5 k5.2 n5 ⟨?_, by omega, ?_⟩ ?_ (fun t hS ht => ?_)
  · rw [e5, zI1, if_neg (by omega), e4, zI1, if_neg (by omega), e3, zI1, if_neg (by omega), e2, zI1, if_pos ⟨rfl, rfl⟩]
  · rw [e5, e4, e3, e2, e1]
    exact owC_i (fun z => absurd z (by decide)) (owC_i (fun z => absurd z (by decide)) (owC_i (fun z => absurd z (by decide)) (owC_i (fun _ => Nat.lt_succ_self _) (owC_i (fun z => absurd z (by decide)) ho))))
  · rw [e5, zI1, if_neg (by omega), e4, zI1, if_neg (by omega), e3, zI1, if_neg (by omega), e2, zI1, if_neg (by omega), e1, zI1, if_neg (by omega)]
  · obtain ⟨a1, a2, a3, a4, a5, a6, a7⟩ := hS
    have n36 : s3.1 5 6 = nI t.1.length := by rw [e3, zI1, if_neg (by omega), e2, zI1, if_neg (by omega), e1, zI1, if_neg (by omega)]; exact a1
    have ts : ∀ {l : List Nat}, tsC s l → tsC s5 l := fun q => by
      rw [e5, e4, e3, e2, e1]
      exact tsC_i (fun z => absurd z (by decide)) (tsC_i (fun z => absurd z (by decide)) (tsC_i (fun z => absurd z (by decide)) (tsC_i (fun z => absurd z (by decide)) (tsC_i (fun z => absurd z (by decide)) q))))
    have fs : ∀ {l : List tF} {n : Nat}, l.length ≤ ow.length + 1 → fsC s n l → fsC s5 n l := fun hq q => by
      rw [e5, e4, e3, e2, e1]
      exact fsC_i (fun _ => hq) (fsC_i (fun _ => hq) (fsC_i (fun _ => hq) (fsC_i (fun _ => hq) (fsC_i (fun z => absurd z (by omega)) q))))
    refine ⟨by rw [e5, zI1, if_neg (by omega), e4, zI1, if_neg (by omega)]; exact n36, a2, List.cons_ne_nil _ _, by show t.2.1.length + 1 ≤ 61; omega, by show s5.1 5 5 = nI (t.2.1.length + 1 - 1); rw [n5, ht]; rfl, ts a6, ?_, ?_, ?_, ?_, by show w ≤ 5; omega, hr, rfl, Nat.le_refl _, fs (by omega) a7⟩
    · show s5.1 21 t.2.1.length = nI (opW w)
      rw [ht, e5, zI1, if_neg (by omega), e4, zI1, if_neg (by omega), e3, zI1, if_neg (by omega), e2, zI1, if_pos ⟨rfl, rfl⟩]
      unfold opW
      rw [if_neg (by omega)]
    · show s5.1 22 t.2.1.length = nI (tyN r)
      rw [ht, e5, zI1, if_neg (by omega), e4, zI1, if_neg (by omega), e3, zI1, if_pos ⟨rfl, rfl⟩]
    · show s5.1 23 t.2.1.length = nI t.1.length
      rw [ht, e5, zI1, if_neg (by omega), e4, zI1, if_pos ⟨rfl, rfl⟩]
      exact n36
    · show s5.1 24 t.2.1.length = bI false
      rw [ht, e5, zI1, if_pos ⟨rfl, rfl⟩]
      rfl
theorem m13 {c i : Nat} (hc : c = 5 ∨ (21 ≤ c ∧ c ≤ 25)) : cown c i ∈ [13] := by
  have e : cown c i = 13 := by
    have q : c = 5 ∨ c = 21 ∨ c = 22 ∨ c = 23 ∨ c = 24 ∨ c = 25 := by omega
    rcases q with rfl | rfl | rfl | rfl | rfl | rfl <;> rfl
  rw [e]; exact List.mem_singleton.2 rfl
/-- the innermost frame of a followed body -/
theorem tS_cons {s : zS} {t : tT} (h : tS s t) : ∃ f r, t.2.1 = f :: r := by
  cases hF : t.2.1 with
  | nil => exact absurd hF h.2.2.1
  | cons f r => exact ⟨f, r, rfl⟩
theorem ty_else {s : zS} {y : Nat} {ow : List Nat} {K : zS → Prop} {QX : zS → Prop} (hv : sV s) (hd : s.1 5 5 = nI (ow.length + 1)) (ho : owC s (y :: ow)) (hl : ow.length < 60)
    (h : ∀ s', gF [13] s s' → sV s' → s'.1 5 5 = nI (ow.length + 1) → owC s' (5 :: ow) → s'.1 22 0 = s.1 22 0 → (∀ t, tS s t → t.2.1.length = ow.length + 2 → tTopW t = 4 → tS s' (tElse t)) → K s') : zCT zZC zmX3_turnToElse [.ref 5] s (zQv K) QX := by
  refine rX3_turnToElse ?_
  unfold PX3_turnToElse_0
  rw [hd, nI_clamp (by omega)]
  have k0 : sR s s := sR.rf hv
  refine ⟨fun z => absurd z (nI_pos (by omega)), fun _ => ⟨fun z => absurd ((nI_leI (by decide) (by omega)).1 z) (by omega), fun _ => ⟨vp_in_nI (by omega) (by decide), fun s1 e1 => ?_⟩⟩⟩
  have n1 : s1.1 5 5 = nI (ow.length + 1) := by rw [e1, zI1, if_neg (by omega)]; exact hd
  rw [n1, nI_clamp (by omega)]
  refine ⟨vp_in_nI (by omega) (by decide), fun s2 e2 => ?_⟩
  have n2 : s2.1 5 5 = nI (ow.length + 1) := by rw [e2, zI1, if_neg (by omega)]; exact n1
  rw [n2, nI_clamp (by omega)]
  refine ⟨vp_in_nI (by omega) (by decide), fun s3 e3 => ?_⟩
  have k3 : sR s s3 := by rw [e3, e2, e1]; exact ((k0.i _ (by omega)).i _ (by omega)).i _ (by omega)
  have g3 : gF [13] s s3 := by rw [e3, e2, e1]; exact ((gF.rf.i _ (m13 (by omega))).i _ (m13 (by omega))).i _ (m13 (by omega))
  have n3 : s3.1 5 5 = nI (ow.length + 1) := by rw [e3, zI1, if_neg (by omega)]; exact n2
  have n23 : ∀ i, s1.1 23 i = s.1 23 i := fun i => by rw [e1, zI1, if_neg (by omega)]
  refine h s3 g3 k3.2 n3 ⟨?_, by decide, ?_⟩ ?_ (fun t hS ht hw => ?_)
  · rw [e3, zI1, if_neg (by omega), e2, zI1, if_neg (by omega), e1, zI1, if_pos ⟨rfl, rfl⟩]; rfl
  · rw [e3, e2, e1]
    exact owC_i (fun z => absurd z (by decide)) (owC_i (fun z => absurd z (by decide)) (owC_i (fun _ => Nat.lt_succ_self _) ho.2.2))
  · rw [e3, zI1, if_neg (by omega), e2, zI1, if_neg (by omega), e1, zI1, if_neg (by omega)]
  · obtain ⟨f, r, hF⟩ := tS_cons hS
    obtain ⟨a1, a2, a3, a4, a5, a6, a7⟩ := hS
    have hrl : r.length = ow.length + 1 := by rw [hF] at ht; simpa using ht
    have hw4 : f.1 = 4 := by unfold tTopW at hw; rw [hF] at hw; exact hw
    rw [hF] at a7
    obtain ⟨q1, q2, q3, q4, q5, q6, q7, q8, q9⟩ := a7
    have eE : tElse t = (t.1.drop (t.1.length - f.2.2.2.1), (5, f.2.1, f.2.2.1, f.2.2.2.1, false) :: r, t.2.2) := by unfold tElse; rw [hF]
    rw [eE]
    have el : (t.1.drop (t.1.length - f.2.2.2.1)).length = f.2.2.2.1 := by rw [List.length_drop]; omega
    rw [hrl] at q1 q2 q3 q4
    have g : ∀ c i, ¬ (c = 21 ∧ i = ow.length + 1) → ¬ (c = 5 ∧ i = 6) → ¬ (c = 24 ∧ i = ow.length + 1) → s3.1 c i = s.1 c i := fun c i z1 z2 z3 => by rw [e3, zI1, if_neg (by omega), e2, zI1, if_neg (by omega), e1, zI1, if_neg (by omega)]
    refine ⟨?_, ?_, List.cons_ne_nil _ _, ?_, ?_, ?_, ?_, ?_, ?_, ?_, by show (5 : Nat) ≤ 5; decide, q6, ?_, ?_, ?_⟩
    · show s3.1 5 6 = nI (t.1.drop (t.1.length - f.2.2.2.1)).length
      rw [el, e3, zI1, if_neg (by omega), e2, zI1, if_pos ⟨rfl, rfl⟩, n23, q3]
    · show (t.1.drop (t.1.length - f.2.2.2.1)).length ≤ 16000
      rw [el]; omega
    · show r.length + 1 ≤ 61; omega
    · show s3.1 5 5 = nI (r.length + 1 - 1); rw [n3, hrl]; rfl
    · rw [e3, e2, e1]; exact tsC_i (fun z => absurd z (by decide)) (tsC_i (fun z => absurd z (by decide)) (tsC_i (fun z => absurd z (by decide)) (tsC_drop _ a6)))
    · show s3.1 21 r.length = nI (opW 5)
      rw [hrl, e3, zI1, if_neg (by omega), e2, zI1, if_neg (by omega), e1, zI1, if_pos ⟨rfl, rfl⟩]; rfl
    · show s3.1 22 r.length = nI (tyN f.2.2.1)
      rw [hrl, g _ _ (by omega) (by omega) (by omega)]; exact q2
    · show s3.1 23 r.length = nI f.2.2.2.1
      rw [hrl, g _ _ (by omega) (by omega) (by omega)]; exact q3
    · show s3.1 24 r.length = bI false
      rw [hrl, e3, zI1, if_pos ⟨rfl, rfl⟩]; rfl
    · show f.2.1 = (if (5 : Nat) = 3 then 2 else f.2.2.1)
      rw [if_neg (by decide), q7, if_neg (by omega)]
    · show f.2.2.2.1 ≤ (t.1.drop (t.1.length - f.2.2.2.1)).length
      rw [el]; exact Nat.le_refl _
    · rw [e3, e2, e1]; exact fsC_i (fun _ => by omega) (fsC_i (fun z => absurd z (by omega)) (fsC_i (fun _ => by omega) q9))
