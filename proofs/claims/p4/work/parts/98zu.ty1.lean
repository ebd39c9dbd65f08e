/-! THE CLASS's typing against the model's -/
def opW (w : Nat) : Nat := if w = 0 then 2 else w
def tsC (s : zS) : List Nat → Prop
  | [] => True
  | x :: r => s.1 25 r.length = nI (tyN x) ∧ x ≤ 3 ∧ tsC s r
def fsC (s : zS) : Nat → List tF → Prop
  | _, [] => True
  | n, f :: r => s.1 21 r.length = nI (opW f.1) ∧ s.1 22 r.length = nI (tyN f.2.2.1) ∧ s.1 23 r.length = nI f.2.2.2.1 ∧ s.1 24 r.length = bI f.2.2.2.2 ∧ f.1 ≤ 5 ∧ f.2.2.1 ≤ 2 ∧ f.2.1 = (if f.1 = 3 then 2 else f.2.2.1) ∧ f.2.2.2.1 ≤ n ∧ fsC s f.2.2.2.1 r
def tS (s : zS) (t : tT) : Prop := s.1 5 6 = nI t.1.length ∧ t.1.length ≤ 16000 ∧ ¬ t.2.1 = [] ∧ t.2.1.length ≤ 61 ∧ s.1 5 5 = nI (t.2.1.length - 1) ∧ tsC s t.1 ∧ fsC s t.1.length t.2.1
/-- all is right so far -/
def tG (s : zS) (t : tT) : Prop := sV s ∧ s.1 5 7 = 1 ∧ t.2.2 = true ∧ tS s t
theorem tzR.rf {s : zS} (h : sV s) : tzR s s := ⟨tzK.rf, h⟩
theorem tsC_i {s : zS} {c j : Nat} {v : Int32} : ∀ {l : List Nat}, (c = 25 → l.length ≤ j) → tsC s l → tsC (zsI s c j v) l := by
  intro l
  induction l with
  | nil => intro _ _; trivial
  | cons x r ih =>
    intro h q
    refine ⟨?_, q.2.1, ih (fun z => by have := h z; simp at this; omega) q.2.2⟩
    rw [zI1, if_neg (fun z => by have := h z.1.symm; simp at this; omega)]
    exact q.1
theorem tsC_drop {s : zS} : ∀ (n : Nat) {l : List Nat}, tsC s l → tsC s (l.drop n) := by
  intro n
  induction n with
  | zero => intro l h; exact h
  | succ n ih =>
    intro l h
    cases l with
    | nil => trivial
    | cons x r => exact ih h.2.2
theorem fsC_i {s : zS} {c j : Nat} {v : Int32} : ∀ {l : List tF} {n : Nat}, (21 ≤ c ∧ c ≤ 24 → l.length ≤ j) → fsC s n l → fsC (zsI s c j v) n l := by
  intro l
  induction l with
  | nil => intro n _ _; trivial
  | cons f r ih =>
    intro n h q
    obtain ⟨q1, q2, q3, q4, q5, q6, q7, q8, q9⟩ := q
    have g : ∀ a, 21 ≤ a → a ≤ 24 → ¬ (a = c ∧ r.length = j) := fun a h1 h2 z => by
      have := h ⟨by omega, by omega⟩
      simp at this
      omega
    exact ⟨by rw [zI1, if_neg (g 21 (by decide) (by decide))]; exact q1, by rw [zI1, if_neg (g 22 (by decide) (by decide))]; exact q2, by rw [zI1, if_neg (g 23 (by decide) (by decide))]; exact q3, by rw [zI1, if_neg (g 24 (by decide) (by decide))]; exact q4, q5, q6, q7, q8, ih (fun z => by have := h z; simp at this; omega) q9⟩
theorem fsC_le {s : zS} {n m : Nat} (h : n ≤ m) : ∀ {l : List tF}, fsC s n l → fsC s m l := by
  intro l q
  cases l with
  | nil => trivial
  | cons f r =>
    obtain ⟨q1, q2, q3, q4, q5, q6, q7, q8, q9⟩ := q
    exact ⟨q1, q2, q3, q4, q5, q6, q7, Nat.le_trans q8 h, q9⟩
theorem tyN_3 {t u : Nat} (ht : t ≤ 3) (hu : u ≤ 3) : nI (tyN t) = nI (tyN u) ↔ t = u := by
  have h : ∀ x, x ≤ 3 → tyN x < 200 := fun x hx => by unfold tyN; split <;> (try split) <;> omega
  rw [nI_eq (by have := h t ht; omega) (by have := h u hu; omega)]
  have e : ∀ x, x ≤ 3 → x = 0 ∨ x = 1 ∨ x = 2 ∨ x = 3 := fun x hx => by omega
  rcases e t ht with rfl | rfl | rfl | rfl <;> rcases e u hu with rfl | rfl | rfl | rfl <;> decide
theorem tyN_0 {t : Nat} (ht : t ≤ 3) : nI (tyN t) = (0 : Int32) ↔ t = 3 := tyN_3 (u := 3) ht (by decide)
theorem tyN_64 {t : Nat} (ht : t ≤ 3) : nI (tyN t) = (64 : Int32) ↔ t = 2 := tyN_3 (u := 2) ht (by decide)
theorem ty_byte {n : Nat} (hn : n ≤ 3) : vp_nar .byte ((nI (tyN n)).toInt8.toInt32) = nI (tyN n) := by
  have : n = 0 ∨ n = 1 ∨ n = 2 ∨ n = 3 := by omega
  rcases this with rfl | rfl | rfl | rfl <;> decide
/-- the innermost frame -/
theorem tS.top {s : zS} {t : tT} (h : tS s t) : s.1 23 (t.2.1.length - 1) = nI (tBase t) ∧ tBase t ≤ t.1.length ∧ s.1 24 (t.2.1.length - 1) = bI (tOpen t) ∧ s.1 22 (t.2.1.length - 1) = nI (tyN (tRes t)) ∧ tRes t ≤ 2 := by
  obtain ⟨T, F, g⟩ := t
  have h7 := h.2.2.2.2.2.2
  cases F with
  | nil => exact absurd rfl h.2.2.1
  | cons f r =>
    obtain ⟨q1, q2, q3, q4, q5, q6, q7, q8, q9⟩ := h7
    exact ⟨q3, q8, q4, q2, q6⟩
theorem tBase_t {a : List Nat} {F : List tF} {g g2 : Bool} : tBase (a, F, g) = tBase ((a, F, g2) : tT) := rfl
theorem ty_take {s : zS} {t : tT} {n : Nat} {x : Int32} {K : Int32 → zS → Prop} {QX : zS → Prop} (hs : tG s t) (hn : n ≤ 3) (hx : x = nI (tyN n))
    (h : (tTake n t).2.2.2 = true → (tTake n t).1 ≤ 3 → ∀ s', tzR s s' → tG s' (tTake n t).2 → K (nI (tyN (tTake n t).1)) s') (hb : (tTake n t).2.2.2 = false → ∀ v s', tzR s s' → s'.1 5 7 = 0 → K v s') : zCT zZC zmX3_take [.ref 5, .int x] s (zQi K) QX := by
  obtain ⟨hv, h1, hg, hS⟩ := id hs
  have top := hS.top
  obtain ⟨a1, a2, a3, a4, a5, a6, a7⟩ := hS
  have hl : 1 ≤ t.2.1.length := by
    cases hF : t.2.1 with
    | nil => exact absurd hF a3
    | cons f r => simp
  have k0 : tzR s s := tzR.rf hv
  refine rX3_take ?_
  unfold PX3_take_0
  rw [hx, a5, a1, nI_clamp (by omega), top.1]
  have c64 : nI (tyN n) = (64 : Int32) ↔ n = 2 := tyN_64 hn
  have c0 : ¬ nI (t.2.1.length - 1) < (0 : Int32) := nI_pos (by omega)
  have c1 : nI (t.2.1.length - 1) < nI 61 := (nI_ltI (by omega) (by decide)).2 (by omega)
  have c2 : nI t.1.length ≤ nI (tBase t) ↔ t.1.length = tBase t := by rw [nI_leI (by omega) (by omega)]; omega
  have c3 : nI t.1.length < (1 : Int32) ↔ t.1.length < 1 := nI_ltI (b := 1) (by omega) (by decide)
  have c4 : nI t.1.length ≤ nI 16000 := nI_le a2 (by decide)
  rw [c64, c2, c3]
  refine ⟨fun q => ?_, fun q => ⟨fun z => absurd z c0, fun _ => ⟨fun _ => ⟨vp_in_nI (by omega) (by decide), fun q2 => ?_, fun q2 => ⟨fun z => absurd z (by omega), fun _ => ⟨fun _ s1 e1 => ?_, fun z => absurd c4 z⟩⟩⟩, fun z => absurd c1 z⟩⟩⟩
  · unfold tTake at h
    rw [if_pos q] at h
    exact h hg (show (2 : Nat) ≤ 3 by decide) s k0 hs
  · unfold PX3_take_64
    rw [h1, a5, nI_clamp (by omega), top.2.2.1]
    unfold tTake at h hb
    rw [if_neg q, if_pos q2] at h hb
    refine ⟨fun z => absurd z (by decide), fun _ => ⟨vp_in_nI (by omega) (by decide), fun z => ⟨Or.inl rfl, fun s2 e2 => ?_⟩, fun z => ⟨Or.inr rfl, fun s3 e3 => ?_⟩⟩⟩
    · have ho : tOpen t = false := by
        cases q3 : tOpen t
        · rfl
        · rw [q3] at z; exact absurd z (by decide)
      exact hb (by show (t.2.2 && tOpen t) = false; rw [ho, Bool.and_false]) _ s2 (by rw [e2]; exact k0.z) (by rw [e2, zI1, if_pos ⟨rfl, rfl⟩])
    · have ho : tOpen t = true := by
        cases q3 : tOpen t
        · rw [q3] at z; exact absurd rfl z
        · rfl
      have e4 : s3 = zsI s 5 7 1 := e3
      refine h (by show (t.2.2 && tOpen t) = true; rw [ho, hg]; rfl) (show (3 : Nat) ≤ 3 by decide) s3 (by rw [e3]; exact k0.o 0 (by rw [h1]; decide)) ⟨(by rw [e3]; exact (k0.o 0 (by rw [h1]; decide)).2), by rw [e3, zI1, if_pos ⟨rfl, rfl⟩], (by show (t.2.2 && tOpen t) = true; rw [ho, hg]; rfl), ?_⟩
      rw [e3]
      exact ⟨by rw [zI1, if_neg (by omega)]; exact a1, a2, a3, a4, by rw [zI1, if_neg (by omega)]; exact a5, tsC_i (fun z => absurd z (by decide)) a6, fsC_i (fun z => absurd z (by omega)) a7⟩
  · have hlen : 0 < t.1.length := by omega
    obtain ⟨y, r, hT⟩ : ∃ y r, t.1 = y :: r := by
      cases hT : t.1 with
      | nil => rw [hT] at hlen; exact absurd hlen (by decide)
      | cons y r => exact ⟨y, r, rfl⟩
    have hlr : t.1.length = r.length + 1 := by rw [hT]; rfl
    have a6' : tsC s (y :: r) := by rw [← hT]; exact a6
    rw [hlr, nI_pred] at e1
    have n56 : s1.1 5 6 = nI r.length := by rw [e1, zI1, if_pos ⟨rfl, rfl⟩]
    have n57 : s1.1 5 7 = 1 := by rw [e1, zI1, if_neg (by omega)]; exact h1
    have n25 : s1.1 25 r.length = nI (tyN y) := by rw [e1, zI1, if_neg (by omega)]; exact a6'.1
    have k1 : tzR s s1 := by rw [e1]; exact k0.i _ (by omega)
    unfold tTake at h hb
    have hd : t.1.headD 0 = y := by rw [hT]; rfl
    have htl : t.1.tail = r := by rw [hT]; rfl
    rw [if_neg q, if_neg q2, hd, htl] at h hb
    have d1 : nI (tyN y) = nI (tyN n) ↔ y = n := tyN_3 a6'.2.1 hn
    have d2 : nI (tyN y) = (0 : Int32) ↔ y = 3 := tyN_0 a6'.2.1
    have d3 : nI (tyN n) = (0 : Int32) ↔ n = 3 := tyN_0 hn
    rw [n56, n57, nI_clamp (by omega), n25, d1, d2, d3]
    have good : (y = n ∨ y = 3 ∨ n = 3) → ∀ s2, s2 = zsI s1 5 7 1 → K (nI (tyN y)) s2 := by
      intro z s2 e2
      have f : (t.2.2 && (decide (y = n) || decide (y = 3) || decide (n = 3))) = true := by
        rw [hg, Bool.true_and, Bool.or_eq_true, Bool.or_eq_true, decide_eq_true_iff, decide_eq_true_iff, decide_eq_true_iff]
        rcases z with z | z | z
        · exact Or.inl (Or.inl z)
        · exact Or.inl (Or.inr z)
        · exact Or.inr z
      have k2 : tzR s s2 := by rw [e2]; exact k1.o 0 (by rw [n57]; decide)
      refine h f a6'.2.1 s2 k2 ⟨k2.2, by rw [e2, zI1, if_pos ⟨rfl, rfl⟩], f, ?_⟩
      rw [e2]
      refine ⟨by rw [zI1, if_neg (by omega)]; exact n56, by show r.length ≤ 16000; omega, a3, a4, by rw [zI1, if_neg (by omega), e1, zI1, if_neg (by omega)]; exact a5, tsC_i (fun z => absurd z (by decide)) (by rw [e1]; exact tsC_i (fun z => absurd z (by decide)) a6'.2.2), fsC_i (fun z => absurd z (by omega)) ?_⟩
      show fsC s1 r.length t.2.1
      have a7' : fsC s1 t.1.length t.2.1 := by rw [e1]; exact fsC_i (fun z => absurd z (by omega)) a7
      have hb2 : tBase t ≤ r.length := by have := top.2.1; omega
      unfold tBase at hb2
      cases hF : t.2.1 with
      | nil => exact absurd hF a3
      | cons f rr =>
        rw [hF] at a7' hb2
        obtain ⟨q1, q2, q3, q4, q5, q6, q7, q8, q9⟩ := a7'
        exact ⟨q1, q2, q3, q4, q5, q6, q7, hb2, q9⟩
    have bad : ¬ (y = n ∨ y = 3 ∨ n = 3) → ∀ s2, s2 = zsI s1 5 7 0 → K (nI (tyN y)) s2 := by
      intro z s2 e2
      refine hb ?_ _ s2 (by rw [e2]; exact k1.z) (by rw [e2, zI1, if_pos ⟨rfl, rfl⟩])
      show (t.2.2 && (decide (y = n) || decide (y = 3) || decide (n = 3))) = false
      rw [decide_eq_false (fun q => z (Or.inl q)), decide_eq_false (fun q => z (Or.inr (Or.inl q))), decide_eq_false (fun q => z (Or.inr (Or.inr q)))]
      exact Bool.and_false _
    exact ⟨vp_in_nI (by omega) (by decide), fun z => absurd z (by decide), fun _ => ⟨fun z => ⟨Or.inr rfl, good (Or.inl z)⟩, fun z => ⟨fun z2 => ⟨Or.inr rfl, good (Or.inr (Or.inl z2))⟩, fun z2 => ⟨fun z3 => ⟨Or.inr rfl, good (Or.inr (Or.inr z3))⟩, fun z3 => ⟨Or.inl rfl, bad (by rintro (q | q | q); exact z q; exact z2 q; exact z3 q)⟩⟩⟩⟩⟩
theorem ty_leave {s : zS} {t : tT} {n : Nat} {x : Int32} {K : zS → Prop} {QX : zS → Prop} (hs : tG s t) (hn : n ≤ 3) (hx : x = nI (tyN n)) (hl : t.1.length < 16000) (h : ∀ s', tzR s s' → tG s' (tGive n t) → K s') : zCT zZC zmX3_leave [.ref 5, .int x] s (zQv K) QX := by
  obtain ⟨hv, h1, hg, hS⟩ := id hs
  obtain ⟨a1, a2, a3, a4, a5, a6, a7⟩ := hS
  have k0 : tzR s s := tzR.rf hv
  refine rX3_leave ?_
  unfold PX3_leave_0
  rw [hx, a1, nI_clamp (by omega), ty_byte hn]
  have c64 : nI (tyN n) = (64 : Int32) ↔ n = 2 := tyN_64 hn
  rw [c64]
  unfold tGive at h
  refine ⟨fun q => ?_, fun q => ⟨fun z => absurd z (nI_pos (by omega)), fun _ => ⟨fun z => absurd ((nI_leI (by decide) (by omega)).1 z) (by omega), fun _ => ⟨vp_in_nI (by omega) (by decide), fun s1 e1 s2 e2 => ?_⟩⟩⟩⟩
  · rw [if_pos q] at h
    exact h s k0 hs
  · rw [if_neg q] at h
    have n1 : s1.1 5 6 = nI t.1.length := by rw [e1, zI1, if_neg (by omega)]; exact a1
    rw [n1, nI_1] at e2
    have k2 : tzR s s2 := by rw [e2, e1]; exact (k0.i _ (by omega)).i _ (by omega)
    refine h s2 k2 ⟨k2.2, by rw [e2, zI1, if_neg (by omega), e1, zI1, if_neg (by omega)]; exact h1, hg, by rw [e2, zI1, if_pos ⟨rfl, rfl⟩]; rfl, by show t.1.length + 1 ≤ 16000; omega, a3, a4, by rw [e2, zI1, if_neg (by omega), e1, zI1, if_neg (by omega)]; exact a5, ⟨by rw [e2, zI1, if_neg (by omega), e1, zI1, if_pos ⟨rfl, rfl⟩], hn, ?_⟩, ?_⟩
    · rw [e2, e1]; exact tsC_i (fun z => absurd z (by decide)) (tsC_i (fun _ => Nat.le_refl _) a6)
    · show fsC s2 (t.1.length + 1) t.2.1
      rw [e2, e1]; exact fsC_i (fun z => absurd z (by omega)) (fsC_i (fun z => absurd z (by omega)) (fsC_le (Nat.le_succ _) a7))
theorem ty_demand {s : zS} {c : Bool} {x : Int32} {K : zS → Prop} {QX : zS → Prop} (hv : sV s) (hx : x = bI c) (h : c = true → K s) (hb : c = false → ∀ s', tzR s s' → s'.1 5 7 = 0 → K s') : zCT zZC zmX3_demand [.ref 5, .int x] s (zQv K) QX := by
  refine rX3_demand ?_
  unfold PX3_demand_0
  rw [hx]
  cases c with
  | true => exact ⟨fun z => absurd z (by decide), fun _ => h rfl⟩
  | false => exact ⟨fun _ => ⟨Or.inl rfl, fun s1 e1 => hb rfl s1 (by rw [e1]; exact (tzR.rf hv).z) (by rw [e1, zI1, if_pos ⟨rfl, rfl⟩])⟩, fun z => absurd rfl z⟩
theorem ty_forget {s : zS} {t : tT} {K : zS → Prop} {QX : zS → Prop} (hs : tG s t) (h : ∀ s', tzR s s' → tG s' (tRest t) → K s') : zCT zZC zmX3_forget [.ref 5] s (zQv K) QX := by
  obtain ⟨hv, h1, hg, hS⟩ := id hs
  have top := hS.top
  obtain ⟨a1, a2, a3, a4, a5, a6, a7⟩ := hS
  have k0 : tzR s s := tzR.rf hv
  obtain ⟨f, r, hF⟩ : ∃ f r, t.2.1 = f :: r := by
    cases hF : t.2.1 with
    | nil => exact absurd hF a3
    | cons f r => exact ⟨f, r, rfl⟩
  have hlr : t.2.1.length - 1 = r.length := by rw [hF]; rfl
  have hr61 : r.length + 1 ≤ 61 := by have := a4; rw [hF] at this; exact this
  have eb : tBase t = f.2.2.2.1 := by unfold tBase; rw [hF]
  have er : tRest t = (t.1.drop (t.1.length - f.2.2.2.1), (f.1, f.2.1, f.2.2.1, f.2.2.2.1, true) :: r, t.2.2) := by unfold tRest; rw [hF]
  rw [hlr] at a5 top
  rw [eb] at top
  rw [er] at h
  rw [hF] at a7
  obtain ⟨q1, q2, q3, q4, q5, q6, q7, q8, q9⟩ := a7
  refine rX3_forget ?_
  unfold PX3_forget_0
  rw [a5, nI_clamp (by omega), top.1]
  refine ⟨fun z => absurd z (nI_pos (by omega)), fun _ => ⟨fun z => absurd ((nI_leI (by decide) (by omega)).1 z) (by omega), fun _ => ⟨vp_in_nI (by omega) (by decide), fun s1 e1 => ?_⟩⟩⟩
  have n1 : s1.1 5 5 = nI r.length := by rw [e1, zI1, if_neg (by omega)]; exact a5
  rw [n1, nI_clamp (by omega)]
  refine ⟨vp_in_nI (by omega) (by decide), fun s2 e2 => ?_⟩
  have k2 : tzR s s2 := by rw [e2, e1]; exact (k0.i _ (by omega)).i _ (by omega)
  have el : (t.1.drop (t.1.length - f.2.2.2.1)).length = f.2.2.2.1 := by rw [List.length_drop]; omega
  have g : ∀ c i, ¬ (c = 24 ∧ i = r.length) → ¬ (c = 5 ∧ i = 6) → s2.1 c i = s.1 c i := fun c i z1 z2 => by rw [e2, zI1, if_neg (by omega), e1, zI1, if_neg (by omega)]
  refine h s2 k2 ⟨k2.2, by rw [g _ _ (by omega) (by omega)]; exact h1, hg, ?_, ?_, List.cons_ne_nil _ _, hr61, ?_, ?_, ?_, ?_, ?_, ?_, q5, q6, q7, ?_, ?_⟩
  · show s2.1 5 6 = nI (t.1.drop (t.1.length - f.2.2.2.1)).length
    rw [el, e2, zI1, if_neg (by omega), e1, zI1, if_pos ⟨rfl, rfl⟩]
  · show (t.1.drop (t.1.length - f.2.2.2.1)).length ≤ 16000
    rw [el]; omega
  · rw [g _ _ (by omega) (by omega)]; exact a5
  · rw [e2, e1]; exact tsC_i (fun z => absurd z (by decide)) (tsC_i (fun z => absurd z (by decide)) (tsC_drop _ a6))
  · rw [g _ _ (by omega) (by omega)]; exact q1
  · rw [g _ _ (by omega) (by omega)]; exact q2
  · rw [g _ _ (by omega) (by omega)]; exact q3
  · rw [e2, zI1, if_pos ⟨rfl, rfl⟩]; rfl
  · show f.2.2.2.1 ≤ (t.1.drop (t.1.length - f.2.2.2.1)).length
    rw [el]; exact Nat.le_refl _
  · rw [e2, e1]; exact fsC_i (fun _ => Nat.le_refl _) (fsC_i (fun z => absurd z (by omega)) q9)
