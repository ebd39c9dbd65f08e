theorem fsC_get {s : zS} : ∀ {l : List tF} {n : Nat}, fsC s n l → ∀ k, k < l.length → s.1 21 (l.length - 1 - k) = nI (opW (l.getD k tf0).1) ∧ s.1 22 (l.length - 1 - k) = nI (tyN (l.getD k tf0).2.2.1) ∧ (l.getD k tf0).2.1 = (if (l.getD k tf0).1 = 3 then 2 else (l.getD k tf0).2.2.1) ∧ (l.getD k tf0).1 ≤ 5 ∧ (l.getD k tf0).2.2.1 ≤ 2 := by
  intro l
  induction l with
  | nil => intro n _ k hk; exact absurd hk (Nat.not_lt_zero _)
  | cons f r ih =>
    intro n h k hk
    obtain ⟨q1, q2, q3, q4, q5, q6, q7, q8, q9⟩ := h
    cases k with
    | zero => exact ⟨q1, q2, q7, q5, q6⟩
    | succ k =>
      simp only [List.length_cons] at hk ⊢
      have e : r.length + 1 - 1 - (k + 1) = r.length - 1 - k := by omega
      rw [e, List.getD_cons_succ]
      exact ih q9 k (by omega)
theorem tS.len {s : zS} {t : tT} (h : tS s t) : 1 ≤ t.2.1.length := by
  cases hF : t.2.1 with
  | nil => exact absurd hF h.2.2.1
  | cons f r => simp
theorem ty_label {s : zS} {t : tT} {k : Nat} {K : Int32 → zS → Prop} {QX : zS → Prop} (hs : tG s t) (hk : k < 2 ^ 35) (h : k < t.2.1.length → (t.2.1.getD k tf0).2.1 ≤ 2 → K (nI (tyN (t.2.1.getD k tf0).2.1)) s) (hb : ¬ k < t.2.1.length → ∀ s', tzR s s' → s'.1 5 7 = 0 → K 64 s') : zCT zZC zmX3_labelType [.ref 5, .long (lN k)] s (zQi K) QX := by
  obtain ⟨hv, h1, hg, hS⟩ := id hs
  have hl := hS.len
  obtain ⟨a1, a2, a3, a4, a5, a6, a7⟩ := hS
  have k0 : tzR s s := tzR.rf hv
  refine rX3_labelType ?_
  unfold PX3_labelType_0
  have c0 : ¬ lN k < (0 : Int64) := fun z => absurd ((lN_ltB (b := 0) (by omega) (by decide)).1 z) (Nat.not_lt_zero _)
  have c1 : ((s.1 5 5).toInt64) < lN k ↔ ¬ k < t.2.1.length := by rw [a5, nI_l (by omega), lN_ltB (by omega) (by omega)]; omega
  rw [c1]
  refine ⟨fun z => absurd z c0, fun _ => ⟨fun q => ⟨fun _ => ⟨Or.inl rfl, fun s1 e1 => hb q s1 (by rw [e1]; exact k0.z) (by rw [e1, zI1, if_pos ⟨rfl, rfl⟩])⟩, fun z => absurd (by decide) z⟩, fun q => ?_⟩⟩
  have q : k < t.2.1.length := by omega
  have e : (s.1 5 5) - (lN k).toInt32 = nI (t.2.1.length - 1 - k) := by rw [a5, lN_i, pk_sub (by omega)]
  obtain ⟨g1, g2, g3, g4, g5⟩ := fsC_get a7 k q
  rw [e, nI_clamp (by omega), g1, g2]
  have c3 : nI (opW (t.2.1.getD k tf0).1) = (3 : Int32) ↔ (t.2.1.getD k tf0).1 = 3 := by
    rw [show (3 : Int32) = nI 3 from rfl, nI_eq (by unfold opW; split <;> omega) (by decide)]
    unfold opW
    split <;> omega
  rw [c3]
  refine ⟨fun z => absurd z (nI_pos (by omega)), fun _ => ⟨fun _ => ⟨vp_in_nI (by omega) (by decide), fun z => ?_, fun z => ⟨vp_in_nI (by omega) (by decide), ?_⟩⟩, fun z => absurd ((nI_ltI (by omega) (by decide)).2 (by omega)) z⟩⟩
  · rw [if_pos z] at g3
    rw [g3] at h
    exact h q (by decide)
  · rw [if_neg z] at g3
    rw [g3] at h
    exact h q g5
theorem ty_isEmpty {s : zS} {t : tT} {K : Int32 → zS → Prop} {QX : zS → Prop} (hs : tG s t) (h : K (bI (decide (t.1.length = tBase t))) s) : zCT zZC zmX3_isEmpty [.ref 5] s (zQi K) QX := by
  obtain ⟨hv, h1, hg, hS⟩ := id hs
  have hl := hS.len
  have top := hS.top
  obtain ⟨a1, a2, a3, a4, a5, a6, a7⟩ := hS
  refine rX3_isEmpty ?_
  unfold PX3_isEmpty_0
  rw [a5, nI_clamp (by omega), a1, top.1, nI_eq (by omega) (by omega)]
  refine ⟨fun z => absurd z (nI_pos (by omega)), fun _ => ⟨fun z => absurd ((nI_leI (by decide) (by omega)).1 z) (by omega), fun _ => ⟨vp_in_nI (by omega) (by decide), fun z => ⟨Or.inr rfl, ?_⟩, fun z => ⟨Or.inl rfl, ?_⟩⟩⟩⟩
  · rw [decide_eq_true z] at h; exact h
  · rw [decide_eq_false z] at h; exact h
theorem ty_result {s : zS} {t : tT} {K : Int32 → zS → Prop} {QX : zS → Prop} (hs : tG s t) (h : tRes t ≤ 2 → K (nI (tyN (tRes t))) s) : zCT zZC zmX3_result [.ref 5] s (zQi K) QX := by
  obtain ⟨hv, h1, hg, hS⟩ := id hs
  have hl := hS.len
  have top := hS.top
  obtain ⟨a1, a2, a3, a4, a5, a6, a7⟩ := hS
  refine rX3_result ?_
  unfold PX3_result_0
  rw [a5, nI_clamp (by omega), top.2.2.2.1]
  exact ⟨fun z => absurd z (nI_pos (by omega)), fun _ => ⟨fun z => absurd ((nI_leI (by decide) (by omega)).1 z) (by omega), fun _ => ⟨vp_in_nI (by omega) (by decide), h top.2.2.2.2⟩⟩⟩
theorem ty_bodyResult {s : zS} {g : Nat} {K : Int32 → zS → Prop} {QX : zS → Prop} (hg : s.1 22 0 = nI (tyN g)) (h : K (nI (tyN g)) s) : zCT zZC zmX3_bodyResult [.ref 5] s (zQi K) QX := by
  refine rX3_bodyResult ?_
  unfold PX3_bodyResult_0
  rw [show (0 : Int32).toNatClampNeg = 0 from rfl, hg]
  exact ⟨by unfold vp_in; decide, h⟩
def tTopW (t : tT) : Nat := match t.2.1 with
  | [] => 0
  | f :: _ => f.1
theorem ty_openedBy {s : zS} {t : tT} {K : Int32 → zS → Prop} {QX : zS → Prop} (hs : tG s t) (h : tTopW t ≤ 5 → K (nI (opW (tTopW t))) s) : zCT zZC zmX3_openedBy [.ref 5] s (zQi K) QX := by
  obtain ⟨hv, h1, hg, hS⟩ := id hs
  obtain ⟨a1, a2, a3, a4, a5, a6, a7⟩ := hS
  refine rX3_openedBy ?_
  unfold PX3_openedBy_0
  unfold tTopW at h
  cases hF : t.2.1 with
  | nil => exact absurd hF a3
  | cons f r =>
    rw [hF] at a4 a5 a7 h
    have e5 : s.1 5 5 = nI r.length := a5
    have h61 : r.length + 1 ≤ 61 := a4
    obtain ⟨q1, q2, q3, q4, q5, q6, q7, q8, q9⟩ := a7
    rw [e5, nI_clamp (by omega), q1]
    exact ⟨fun z => absurd z (nI_pos (by omega)), fun _ => ⟨fun z => absurd ((nI_leI (by decide) (by omega)).1 z) (by omega), fun _ => ⟨vp_in_nI (by omega) (by decide), h q5⟩⟩⟩
/-! flags go down -/
theorem tGive_fl (n : Nat) (t : tT) : (tGive n t).2.2 = t.2.2 := by unfold tGive; split <;> rfl
theorem tRest_fl (t : tT) : (tRest t).2.2 = t.2.2 := by unfold tRest; split <;> rfl
theorem tTake_fl {n : Nat} {t : tT} (h : t.2.2 = false) : (tTake n t).2.2.2 = false := by
  cases q : (tTake n t).2.2.2
  · rfl
  · rw [tTake_g n t q] at h; exact absurd h (by decide)
theorem tNeed_t (t : tT) : tNeed true t = t := by unfold tNeed; rw [Bool.and_true]
theorem tNeed_f (t : tT) : (tNeed false t).2.2 = false := by unfold tNeed; exact Bool.and_false _
/-- what an instruction's typing leads to -/
def tOk (s : zS) (t : tT) (K : zS → Prop) : Prop := (t.2.2 = true → ∀ s', tzR s s' → tG s' t → K s') ∧ (t.2.2 = false → ∀ s', tzR s s' → s'.1 5 7 = 0 → K s')
theorem tOk.dn {s s1 : zS} {t : tT} {K : zS → Prop} (h : tOk s t K) (hf : t.2.2 = false) (k : tzR s s1) (z : s1.1 5 7 = 0) : ∀ u, tzR s1 u → K u := fun u ku => h.2 hf u (k.trans ku) (ku.1.2 z)
theorem tOk.up {s s1 : zS} {t : tT} {K : zS → Prop} (h : tOk s t K) (k : tzR s s1) (g : tG s1 t) : K s1 := h.1 g.2.2.1 s1 k g
theorem fo_leap {s : zS} {t : tT} {x k g : Nat} {K : zS → Prop} {QX : zS → Prop} (hs : tG s t) (hx : x < 256) (hk : ¬ x = 15 → k < 2 ^ 35) (hl : t.1.length < 16000) (hg : s.1 22 0 = nI (tyN g)) (hg2 : g ≤ 2) (h : tOk s (if x = 15 then tRest (tTake g t).2 else if x = 13 then tBrIf k t else tBr k t) K) : zCT zZC zmX7_followLeap [.ref 7, .int (nI x), .long (lN k)] s (zQv K) QX := by
  have k0 : tzR s s := tzR.rf hs.1
  refine rX7_followLeap ?_
  unfold PX7_followLeap_0
  have c15 : nI x = (15 : Int32) ↔ x = 15 := nI_eq (b := 15) (by omega) (by decide)
  have c13 : nI x = (13 : Int32) ↔ x = 13 := nI_eq (b := 13) (by omega) (by decide)
  refine ⟨fun q => ?_, fun q => ?_⟩
  · rw [if_pos (c15.1 q)] at h
    refine ty_bodyResult hg ?_
    refine ty_take hs (by omega) rfl (fun f _ s1 k1 h1 => ?_) (fun f v s1 k1 z1 => ?_)
    · exact ty_forget h1 (fun s2 k2 h2 => h.up (k1.trans k2) h2)
    · exact zr_X7_followLeap_0_1 k1.2 (h.dn (by rw [tRest_fl]; exact f) k1 z1)
  · rw [if_neg (fun z => q (c15.2 z))] at h
    refine ty_label hs (hk (fun z => q (c15.2 z))) (fun ql hl2 => ?_) (fun ql s1 k1 z1 => ?_)
    · have e1 : (tLabel k t).1 = (t.2.1.getD k tf0).2.1 := by unfold tLabel; rw [if_pos ql]
      have e2 : (tLabel k t).2 = t := by unfold tLabel; rw [decide_eq_true ql, tNeed_t]
      refine ⟨fun q => ?_, fun q => ?_⟩
      · rw [if_pos (c13.1 q)] at h
        unfold tBrIf at h
        rw [e1, e2] at h
        refine ty_take hs (n := 0) (by decide) rfl (fun f _ s1 k1 h1 => ?_) (fun f v s1 k1 z1 => ?_)
        · refine ty_take h1 (by omega) rfl (fun f2 _ s2 k2 h2 => ?_) (fun f2 v s2 k2 z2 => ?_)
          · refine ty_leave h2 (by omega) rfl ?_ (fun s3 k3 h3 => h.up ((k1.trans k2).trans k3) h3)
            exact Nat.lt_of_le_of_lt (Nat.le_trans (tTake_len _ _) (tTake_len _ _)) hl
          · exact zr_X7_followLeap_0_5 k2.2 (h.dn (by rw [tGive_fl]; exact f2) (k1.trans k2) z2)
        · exact zr_X7_followLeap_0_4 k1.2 (h.dn (by rw [tGive_fl]; exact tTake_fl f) k1 z1)
      · rw [if_neg (fun z => q (c13.2 z))] at h
        unfold tBr at h
        rw [e1, e2] at h
        refine ty_take hs (by omega) rfl (fun f _ s1 k1 h1 => ?_) (fun f v s1 k1 z1 => ?_)
        · exact ty_forget h1 (fun s2 k2 h2 => h.up (k1.trans k2) h2)
        · exact zr_X7_followLeap_0_7 k1.2 (h.dn (by rw [tRest_fl]; exact f) k1 z1)
    · have e2 : (tLabel k t).2.2.2 = false := by unfold tLabel; rw [decide_eq_false ql]; exact tNeed_f t
      refine zr_X7_followLeap_0_3 k1.2 (h.dn ?_ k1 z1)
      by_cases q : x = 13
      · rw [if_pos q]; unfold tBrIf; rw [tGive_fl]; exact tTake_fl (tTake_fl e2)
      · rw [if_neg q]; unfold tBr; rw [tRest_fl]; exact tTake_fl e2
theorem fo_choice {s : zS} {t : tT} {x : Nat} {K : zS → Prop} {QX : zS → Prop} (hs : tG s t) (hx : x = 26 ∨ x = 27) (hl : t.1.length < 16000) (h : tOk s (if x = 26 then (tTake 3 t).2 else tSel t) K) : zCT zZC zmX7_followChoice [.ref 7, .int (nI x)] s (zQv K) QX := by
  refine rX7_followChoice ?_
  unfold PX7_followChoice_0
  have c26 : nI x = (26 : Int32) ↔ x = 26 := nI_eq (b := 26) (by omega) (by decide)
  refine ⟨fun q => ?_, fun q => ?_⟩
  · rw [if_pos (c26.1 q)] at h
    exact ty_take hs (n := 3) (by decide) rfl (fun f _ s1 k1 h1 => h.up k1 h1) (fun f v s1 k1 z1 => zr_X7_followChoice_0_0 k1.2 (h.dn f k1 z1))
  · rw [if_neg (fun z => q (c26.2 z))] at h
    have h : tOk s (tGive (if (tTake 3 (tTake 0 t).2).1 = 3 then (tTake 3 (tTake 3 (tTake 0 t).2).2).1 else (tTake 3 (tTake 0 t).2).1) (tNeed (decide ((tTake 3 (tTake 0 t).2).1 = (tTake 3 (tTake 3 (tTake 0 t).2).2).1) || decide ((tTake 3 (tTake 0 t).2).1 = 3) || decide ((tTake 3 (tTake 3 (tTake 0 t).2).2).1 = 3)) (tTake 3 (tTake 3 (tTake 0 t).2).2).2)) K := h
    have dn : ∀ {u : tT}, u.2.2 = false → (tGive (if (tTake 3 (tTake 0 t).2).1 = 3 then (tTake 3 (tTake 3 (tTake 0 t).2).2).1 else (tTake 3 (tTake 0 t).2).1) (tNeed (decide ((tTake 3 (tTake 0 t).2).1 = (tTake 3 (tTake 3 (tTake 0 t).2).2).1) || decide ((tTake 3 (tTake 0 t).2).1 = 3) || decide ((tTake 3 (tTake 3 (tTake 0 t).2).2).1 = 3)) (tTake 3 (tTake 3 (tTake 0 t).2).2).2)).2.2 = ((tTake 3 (tTake 3 (tTake 0 t).2).2).2.2.2 && (decide ((tTake 3 (tTake 0 t).2).1 = (tTake 3 (tTake 3 (tTake 0 t).2).2).1) || decide ((tTake 3 (tTake 0 t).2).1 = 3) || decide ((tTake 3 (tTake 3 (tTake 0 t).2).2).1 = 3))) := fun _ => by rw [tGive_fl]; rfl
    have dn := dn (u := ([], [], false)) rfl
    refine ty_take hs (n := 0) (by decide) rfl (fun f1 v1 s1 k1 h1 => ?_) (fun f v s1 k1 z1 => zr_X7_followChoice_0_1 k1.2 (h.dn (by rw [dn, tTake_fl (tTake_fl f)]; rfl) k1 z1))
    refine ty_take h1 (n := 3) (by decide) rfl (fun f2 v2 s2 k2 h2 => ?_) (fun f v s2 k2 z2 => zr_X7_followChoice_0_2 k2.2 (h.dn (by rw [dn, tTake_fl f]; rfl) (k1.trans k2) z2))
    refine ty_take h2 (n := 3) (by decide) rfl (fun f3 v3 s3 k3 h3 => ?_) (fun f v s3 k3 z3 => zr_X7_followChoice_0_3 k3.2 (h.dn (by rw [dn, f]; rfl) ((k1.trans k2).trans k3) z3))
    have hlen : (tTake 3 (tTake 3 (tTake 0 t).2).2).2.1.length < 16000 := Nat.lt_of_le_of_lt (Nat.le_trans (tTake_len _ _) (Nat.le_trans (tTake_len _ _) (tTake_len _ _))) hl
    generalize tTake 3 (tTake 3 (tTake 0 t).2).2 = Q at h v3 h3 dn hlen f3
    generalize tTake 3 (tTake 0 t).2 = P at h v2 dn
    have d1 : nI (tyN Q.1) = nI (tyN P.1) ↔ Q.1 = P.1 := tyN_3 v3 v2
    have d2 : nI (tyN Q.1) = (0 : Int32) ↔ Q.1 = 3 := tyN_0 v3
    have d3 : nI (tyN P.1) = (0 : Int32) ↔ P.1 = 3 := tyN_0 v2
    rw [d1, d2, d3]
    have k13 := (k1.trans k2).trans k3
    have fin : (P.1 = Q.1 ∨ P.1 = 3 ∨ Q.1 = 3) → (Q.1 = 3 → zCT zZC zmX3_leave [.ref 5, .int (nI (tyN P.1))] s3 (zQv (fun s10 => zQv K none s10)) QX) ∧ (¬ Q.1 = 3 → zCT zZC zmX3_leave [.ref 5, .int (nI (tyN Q.1))] s3 (zQv (fun s10 => zQv K none s10)) QX) := by
      intro z
      have fb : (decide (P.1 = Q.1) || decide (P.1 = 3) || decide (Q.1 = 3)) = true := by
        rw [Bool.or_eq_true, Bool.or_eq_true, decide_eq_true_iff, decide_eq_true_iff, decide_eq_true_iff]
        rcases z with z | z | z
        · exact Or.inl (Or.inl z)
        · exact Or.inl (Or.inr z)
        · exact Or.inr z
      have hN : tG s3 (tNeed true Q.2) := by rw [tNeed_t]; exact h3
      rw [fb] at h
      refine ⟨fun z3 => ?_, fun z3 => ?_⟩
      · refine ty_leave hN v2 rfl hlen (fun s4 k4 h4 => h.up (k13.trans k4) ?_)
        by_cases q3 : P.1 = 3
        · rw [if_pos q3, z3]; rw [q3] at h4; exact h4
        · rw [if_neg q3]; exact h4
      · refine ty_leave hN v3 rfl hlen (fun s4 k4 h4 => h.up (k13.trans k4) ?_)
        by_cases q3 : P.1 = 3
        · rw [if_pos q3]; exact h4
        · rw [if_neg q3]
          have e : P.1 = Q.1 := by omega
          rw [e]; exact h4
    have dem : ∀ K' : zS → Prop, K' s3 → zCT zZC zmX3_demand [.ref 5, .int (1 : Int32)] s3 (zQv K') QX := fun K' z => ty_demand (c := true) h3.1 rfl (fun _ => z) (fun z => absurd z (by decide))
    refine ⟨fun z => dem _ (fin (Or.inl z.symm)), fun z => ⟨fun z2 => dem _ (fin (Or.inr (Or.inr z2))), fun z2 => ⟨fun z3 => dem _ (fin (Or.inr (Or.inl z3))), fun z3 => ?_⟩⟩⟩
    refine ty_demand (c := false) h3.1 rfl (fun z => absurd z (by decide)) (fun _ s4 k4 z4 => ?_)
    have dd := h.dn (by rw [dn, decide_eq_false (fun q => z q.symm), decide_eq_false z3, decide_eq_false z2]; exact Bool.and_false _) (k13.trans k4) z4
    exact ⟨fun _ => zf_X3_leave k4.2 (fun s5 k5 => dd s5 k5), fun _ => zf_X3_leave k4.2 (fun s5 k5 => dd s5 k5)⟩
