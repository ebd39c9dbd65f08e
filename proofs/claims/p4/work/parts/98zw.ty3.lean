def lcR (s : zS) (L : List Nat) : Prop := L.length ≤ 80 ∧ s.1 7 3 = nI L.length ∧ ∀ i x, L[i]? = some x → x ≤ 1 ∧ s.1 27 i = nI (tyN x)
theorem getD_some {α : Type} {l : List α} {i : Nat} {x d : α} (h : l[i]? = some x) : l.getD i d = x := by rw [List.getD_eq_getElem?_getD, h]; rfl
theorem fo_local {s : zS} {t : tT} {x k : Nat} {L : List Nat} {K : zS → Prop} {QX : zS → Prop} (hs : tG s t) (hL : lcR s L) (hx : x = 32 ∨ x = 33 ∨ x = 34) (hk : k < 2 ^ 35) (hl : t.1.length < 16000) (h : tOk s (tLoc L x k t) K) : zCT zZC zmX7_followLocal [.ref 7, .int (nI x), .long (lN k)] s (zQv K) QX := by
  have k0 : tzR s s := tzR.rf hs.1
  refine rX7_followLocal ?_
  unfold PX7_followLocal_0
  have c0 : ¬ lN k < (0 : Int64) := fun z => absurd ((lN_ltB (b := 0) (by omega) (by decide)).1 z) (Nat.not_lt_zero _)
  have h80 := hL.1
  have c1 : ((s.1 7 3).toInt64) ≤ lN k ↔ L.length ≤ k := by rw [hL.2.1, nI_l (by omega), lN_leB (by omega) (by omega)]
  have c2 : lN k < ((nI 80).toInt64) ↔ k < 80 := by rw [nI_l (by decide), lN_ltB (by omega) (by decide)]
  have c32 : nI x = (32 : Int32) ↔ x = 32 := nI_eq (b := 32) (by omega) (by decide)
  have c33 : nI x = (33 : Int32) ↔ x = 33 := nI_eq (b := 33) (by omega) (by decide)
  unfold tLoc tIf at h
  rw [c1, c2, c32, c33]
  refine ⟨fun z => absurd z c0, fun _ => ⟨fun q => ?_, fun q => ⟨fun _ => ⟨?_, ?_⟩, fun z => absurd (by omega) z⟩⟩⟩
  · rw [decide_eq_false (show ¬ k < L.length by omega)] at h
    rw [if_neg (by rw [tNeed_f]; decide)] at h
    exact ty_demand (c := false) hs.1 rfl (fun z => absurd z (by decide)) (fun _ s1 k1 z1 => zr_X7_followLocal_0_1 k1.2 (h.dn (tNeed_f t) k1 z1))
  · rw [lN_i]; exact vp_in_nI (by omega) (by decide)
  · have eL := List.getElem?_eq_getElem (l := L) (i := k) (by omega)
    obtain ⟨hx1, e27⟩ := hL.2.2 k _ eL
    have eD : L.getD k 0 = L[k] := getD_some eL
    rw [decide_eq_true (show k < L.length by omega), tNeed_t, if_pos hs.2.2.1, eD] at h
    rw [lN_i, nI_clamp (by omega), e27]
    refine ⟨fun q32 => ⟨fun z => absurd z (by omega), fun _ => ?_⟩, fun q32 => ?_⟩
    · have h : tOk s (if x = 33 then (if x = 32 then t else (tTake L[k] t).2) else tGive L[k] (if x = 32 then t else (tTake L[k] t).2)) K := h
      rw [if_neg (by omega), if_pos q32] at h
      exact ty_leave hs (by omega) rfl hl (fun s1 k1 h1 => h.up k1 h1)
    · have h : tOk s (if x = 33 then (if x = 32 then t else (tTake L[k] t).2) else tGive L[k] (if x = 32 then t else (tTake L[k] t).2)) K := h
      rw [if_neg q32] at h
      refine ty_take hs (by omega) rfl (fun f _ s1 k1 h1 => ⟨fun q33 => ?_, fun q33 => ?_⟩) (fun f v s1 k1 z1 => ?_)
      · rw [if_pos q33] at h; exact h.up k1 h1
      · rw [if_neg q33] at h
        exact ty_leave h1 (by omega) rfl (Nat.lt_of_le_of_lt (tTake_len _ _) hl) (fun s2 k2 h2 => h.up (k1.trans k2) h2)
      · have fl : (if x = 33 then (tTake L[k] t).2 else tGive L[k] (tTake L[k] t).2).2.2 = false := by
          by_cases q : x = 33
          · rw [if_pos q]; exact f
          · rw [if_neg q, tGive_fl]; exact f
        have dd := h.dn fl k1 z1
        exact ⟨fun _ => dd s1 (tzR.rf k1.2), fun _ => zf_X3_leave k1.2 (fun s2 k2 => dd s2 k2)⟩
def tGlo' (G : List (Nat × Nat)) (op k : Nat) (t : tT) : tT := tIf (tNeed (decide (k < G.length) && (decide (op = 35) || decide ((G.getD k (0, 0)).2 = 1))) t) fun t1 =>
  if op = 35 then tGive (G.getD k (0, 0)).1 t1 else (tTake (G.getD k (0, 0)).1 t1).2
theorem fo_global {s : zS} {t : tT} {x k : Nat} {G : List (Nat × Nat)} {K : zS → Prop} {QX : zS → Prop} (hs : tG s t) (hG : glR s G) (hx : x = 35 ∨ x = 36) (hk : k < 2 ^ 35) (hl : t.1.length < 16000) (h : tOk s (tGlo' G x k t) K) : zCT zZC zmX7_followGlobal [.ref 7, .int (nI x), .long (lN k)] s (zQv K) QX := by
  refine rX7_followGlobal ?_
  unfold PX7_followGlobal_0
  have c0 : ¬ lN k < (0 : Int64) := fun z => absurd ((lN_ltB (b := 0) (by omega) (by decide)).1 z) (Nat.not_lt_zero _)
  have h64 := hG.1
  have c1 : lN k < ((s.1 2 12).toInt64) ↔ k < G.length := by rw [hG.2.1, nI_l (by omega), lN_ltB (by omega) (by omega)]
  have c35 : nI x = (35 : Int32) ↔ x = 35 := nI_eq (b := 35) (by omega) (by decide)
  unfold tGlo' tIf at h
  rw [c1, c35, lN_i]
  refine ⟨fun z => absurd z c0, fun _ => ⟨fun q => ?_, fun q => ?_⟩⟩
  · have eG := List.getElem?_eq_getElem (l := G) (i := k) q
    have eD : G.getD k (0, 0) = G[k] := getD_some eG
    obtain ⟨g1, g2, -, -⟩ := hG.2.2 k _ eG
    rw [decide_eq_true q, Bool.true_and, eD] at h
    refine rd_typeOfGlobal hG eG ?_
    refine ⟨fun q35 => ?_, fun q35 => ?_⟩
    · rw [decide_eq_true q35, Bool.true_or, tNeed_t, if_pos hs.2.2.1] at h
      have h : tOk s (if x = 35 then tGive G[k].1 t else (tTake G[k].1 t).2) K := h
      rw [if_pos q35] at h
      exact ty_leave hs (by omega) rfl hl (fun s1 k1 h1 => h.up k1 h1)
    · rw [decide_eq_false q35, Bool.false_or] at h
      refine rd_changesGlobal hG eG ?_
      by_cases qc : G[k].2 = 1
      · rw [decide_eq_true qc, tNeed_t, if_pos hs.2.2.1] at h
        have h : tOk s (if x = 35 then tGive G[k].1 t else (tTake G[k].1 t).2) K := h
        rw [if_neg q35] at h
        rw [qc]
        refine ty_demand (c := true) hs.1 rfl (fun _ => ?_) (fun z => absurd z (by decide))
        exact ty_take hs (by omega) rfl (fun f _ s1 k1 h1 => h.up k1 h1) (fun f v s1 k1 z1 => h.dn f k1 z1 s1 (tzR.rf k1.2))
      · have q0 : G[k].2 = 0 := by omega
        rw [decide_eq_false qc, if_neg (by rw [tNeed_f]; decide)] at h
        rw [q0]
        refine ty_demand (c := false) hs.1 rfl (fun z => absurd z (by decide)) (fun _ s1 k1 z1 => ?_)
        have dd := h.dn (tNeed_f t) k1 z1
        exact zf_X3_take k1.2 (fun v s2 k2 => dd s2 k2)
  · rw [decide_eq_false q, Bool.false_and, if_neg (by rw [tNeed_f]; decide)] at h
    refine ty_demand (c := false) hs.1 rfl (fun z => absurd z (by decide)) (fun _ s1 k1 z1 => ?_)
    exact h.dn (tNeed_f t) k1 z1 s1 (tzR.rf k1.2)
theorem fo_size {s : zS} {t : tT} {x nm : Nat} {K : zS → Prop} {QX : zS → Prop} (hs : tG s t) (hm : s.1 2 11 = nI nm) (hm2 : nm < 2 ^ 30) (hx : x = 63 ∨ x = 64) (hl : t.1.length < 16000) (h : tOk s (tTurns 0 (x - 63) 0 (tNeed (decide (0 < nm)) t)) K) : zCT zZC zmX7_followSize [.ref 7, .int (nI x)] s (zQv K) QX := by
  refine rX7_followSize ?_
  unfold PX7_followSize_0
  have c1 : (s.1 2 11) ≤ (0 : Int32) ↔ nm = 0 := by rw [hm, show (0 : Int32) = nI 0 from rfl, nI_leI (by omega) (by decide)]; omega
  have c64 : nI x = (64 : Int32) ↔ x = 64 := nI_eq (b := 64) (by omega) (by decide)
  rw [c1, c64]
  have fl : ∀ {u : tT} (n : Nat), u.2.2 = false → (tTurns 0 n 0 u).2.2 = false := fun {u} n hu => by
    unfold tTurns
    rw [tGive_fl]
    have : ∀ (l : List Nat) (u : tT), u.2.2 = false → (tTakeL l u).2.2 = false := by
      intro l
      induction l with
      | nil => intro u hu; exact hu
      | cons y r ih => intro u hu; exact ih _ (tTake_fl hu)
    exact this _ _ hu
  refine ⟨fun q => ?_, fun q => ?_⟩
  · rw [decide_eq_false (by omega)] at h
    refine ty_demand (c := false) hs.1 rfl (fun z => absurd z (by decide)) (fun _ s1 k1 z1 => ?_)
    have dd := h.dn (fl _ (tNeed_f t)) k1 z1
    exact ⟨fun _ => zf_X3_take k1.2 (fun v s2 k2 => zf_X3_leave k2.2 (fun s3 k3 => dd s3 (k2.trans k3))), fun _ => zf_X3_leave k1.2 (fun s2 k2 => dd s2 k2)⟩
  · rw [decide_eq_true (by omega), tNeed_t] at h
    refine ty_demand (c := true) hs.1 rfl (fun _ => ?_) (fun z => absurd z (by decide))
    refine ⟨fun q64 => ?_, fun q64 => ?_⟩
    · rw [q64] at h
      have h : tOk s (tGive 0 (tTake 0 t).2) K := h
      refine ty_take hs (n := 0) (by decide) rfl (fun f _ s1 k1 h1 => ?_) (fun f v s1 k1 z1 => ?_)
      · exact ty_leave h1 (n := 0) (by decide) rfl (Nat.lt_of_le_of_lt (tTake_len _ _) hl) (fun s2 k2 h2 => h.up (k1.trans k2) h2)
      · exact zf_X3_leave k1.2 (fun s2 k2 => h.dn (by rw [tGive_fl]; exact f) k1 z1 s2 k2)
    · rw [show x = 63 by omega] at h
      have h : tOk s (tGive 0 t) K := h
      exact ty_leave hs (n := 0) (by decide) rfl hl (fun s1 k1 h1 => h.up k1 h1)
/-- what a numeric instruction takes and leaves -/
def nTL (x : Nat) : Bool := decide ((80 ≤ x ∧ x ≤ 90) ∨ (121 ≤ x ∧ x ≤ 138) ∨ x = 167 ∨ 194 ≤ x)
def nT2 (x : Nat) : Bool := decide ((70 ≤ x ∧ x ≤ 79) ∨ (81 ≤ x ∧ x ≤ 90) ∨ (106 ≤ x ∧ x ≤ 120) ∨ (124 ≤ x ∧ x ≤ 138))
def nLL (x : Nat) : Bool := decide ((121 ≤ x ∧ x ≤ 138) ∨ x = 172 ∨ x = 173 ∨ 194 ≤ x)
def isNum (x : Nat) : Bool := (decide (69 ≤ x) && decide (x ≤ 90)) || (decide (103 ≤ x) && decide (x ≤ 138)) || decide (x = 167) || decide (x = 172) || decide (x = 173) || (decide (192 ≤ x) && decide (x ≤ 196))
theorem nu_eq : ∀ x, x < 256 → isNum x = true → nu0 x = (cond (nTL x) 1 0, cond (nT2 x) 2 1, cond (nLL x) 1 0) := by decide +kernel
theorem rv_takesLong {x : Nat} {s : zS} {K : Int32 → zS → Prop} {QX : zS → Prop} (hx : x < 256) (h : K (bI (nTL x)) s) : zCT zZC zmX7_takesLong [.int (nI x)] s (zQi K) QX := by
  refine rX7_takesLong ?_
  unfold PX7_takesLong_0
  have c1 : nI x < (80 : Int32) ↔ x < 80 := nI_ltI (b := 80) (by omega) (by decide)
  have c2 : nI x ≤ (90 : Int32) ↔ x ≤ 90 := nI_leI (b := 90) (by omega) (by decide)
  have c3 : nI x < (121 : Int32) ↔ x < 121 := nI_ltI (b := 121) (by omega) (by decide)
  have c4 : nI x ≤ (138 : Int32) ↔ x ≤ 138 := nI_leI (b := 138) (by omega) (by decide)
  have c5 : nI x = (167 : Int32) ↔ x = 167 := nI_eq (b := 167) (by omega) (by decide)
  have c6 : nI x < (194 : Int32) ↔ x < 194 := nI_ltI (b := 194) (by omega) (by decide)
  unfold nTL at h
  have T : ((80 ≤ x ∧ x ≤ 90) ∨ (121 ≤ x ∧ x ≤ 138) ∨ x = 167 ∨ 194 ≤ x) → ((1 : Int32) = 0 ∨ (1 : Int32) = 1) ∧ zQi K (some (.int 1)) s := fun z => ⟨Or.inr rfl, by rw [decide_eq_true z] at h; exact h⟩
  have F : ¬ ((80 ≤ x ∧ x ≤ 90) ∨ (121 ≤ x ∧ x ≤ 138) ∨ x = 167 ∨ 194 ≤ x) → ((0 : Int32) = 0 ∨ (0 : Int32) = 1) ∧ zQi K (some (.int 0)) s := fun z => ⟨Or.inl rfl, by rw [decide_eq_false z] at h; exact h⟩
  rw [c1, c2, c3, c4, c5, c6]
  repeat' first | exact T (by omega) | exact F (by omega) | refine ⟨fun c => ?_, fun c => ?_⟩
theorem rv_leavesLong {x : Nat} {s : zS} {K : Int32 → zS → Prop} {QX : zS → Prop} (hx : x < 256) (h : K (bI (nLL x)) s) : zCT zZC zmX7_leavesLong [.int (nI x)] s (zQi K) QX := by
  refine rX7_leavesLong ?_
  unfold PX7_leavesLong_0
  have c3 : nI x < (121 : Int32) ↔ x < 121 := nI_ltI (b := 121) (by omega) (by decide)
  have c4 : nI x ≤ (138 : Int32) ↔ x ≤ 138 := nI_leI (b := 138) (by omega) (by decide)
  have c5 : nI x = (172 : Int32) ↔ x = 172 := nI_eq (b := 172) (by omega) (by decide)
  have c7 : nI x = (173 : Int32) ↔ x = 173 := nI_eq (b := 173) (by omega) (by decide)
  have c6 : nI x < (194 : Int32) ↔ x < 194 := nI_ltI (b := 194) (by omega) (by decide)
  unfold nLL at h
  have T : ((121 ≤ x ∧ x ≤ 138) ∨ x = 172 ∨ x = 173 ∨ 194 ≤ x) → ((1 : Int32) = 0 ∨ (1 : Int32) = 1) ∧ zQi K (some (.int 1)) s := fun z => ⟨Or.inr rfl, by rw [decide_eq_true z] at h; exact h⟩
  have F : ¬ ((121 ≤ x ∧ x ≤ 138) ∨ x = 172 ∨ x = 173 ∨ 194 ≤ x) → ((0 : Int32) = 0 ∨ (0 : Int32) = 1) ∧ zQi K (some (.int 0)) s := fun z => ⟨Or.inl rfl, by rw [decide_eq_false z] at h; exact h⟩
  rw [c3, c4, c5, c6, c7]
  repeat' first | exact T (by omega) | exact F (by omega) | refine ⟨fun c => ?_, fun c => ?_⟩
theorem rv_takesTwo {x : Nat} {s : zS} {K : Int32 → zS → Prop} {QX : zS → Prop} (hx : x < 256) (h : K (bI (nT2 x)) s) : zCT zZC zmX7_takesTwo [.int (nI x)] s (zQi K) QX := by
  refine rX7_takesTwo ?_
  have c1 : nI x < (70 : Int32) ↔ x < 70 := nI_ltI (b := 70) (by omega) (by decide)
  have c2 : nI x ≤ (79 : Int32) ↔ x ≤ 79 := nI_leI (b := 79) (by omega) (by decide)
  have c3 : nI x < (81 : Int32) ↔ x < 81 := nI_ltI (b := 81) (by omega) (by decide)
  have c4 : nI x ≤ (90 : Int32) ↔ x ≤ 90 := nI_leI (b := 90) (by omega) (by decide)
  have c5 : nI x < (106 : Int32) ↔ x < 106 := nI_ltI (b := 106) (by omega) (by decide)
  have c6 : nI x ≤ (120 : Int32) ↔ x ≤ 120 := nI_leI (b := 120) (by omega) (by decide)
  have c7 : nI x < (124 : Int32) ↔ x < 124 := nI_ltI (b := 124) (by omega) (by decide)
  have c8 : (138 : Int32) < nI x ↔ 138 < x := nI_ltI (a := 138) (by decide) (by omega)
  unfold nT2 at h
  have T : ((70 ≤ x ∧ x ≤ 79) ∨ (81 ≤ x ∧ x ≤ 90) ∨ (106 ≤ x ∧ x ≤ 120) ∨ (124 ≤ x ∧ x ≤ 138)) → ((1 : Int32) = 0 ∨ (1 : Int32) = 1) ∧ zQi K (some (.int 1)) s := fun z => ⟨Or.inr rfl, by rw [decide_eq_true z] at h; exact h⟩
  have F : ¬ ((70 ≤ x ∧ x ≤ 79) ∨ (81 ≤ x ∧ x ≤ 90) ∨ (106 ≤ x ∧ x ≤ 120) ∨ (124 ≤ x ∧ x ≤ 138)) → ((0 : Int32) = 0 ∨ (0 : Int32) = 1) ∧ zQi K (some (.int 0)) s := fun z => ⟨Or.inl rfl, by rw [decide_eq_false z] at h; exact h⟩
  unfold PX7_takesTwo_0 PX7_takesTwo_12 PX7_takesTwo_24 PX7_takesTwo_36
  rw [c1, c2, c3, c4, c5, c6, c7, c8]
  repeat' first | exact T (by omega) | exact F (by omega) | refine ⟨fun c => ?_, fun c => ?_⟩
theorem fo_plain {s : zS} {t : tT} {x : Nat} {K : zS → Prop} {QX : zS → Prop} (hs : tG s t) (hx : x < 256) (hn : x = 65 ∨ x = 66 ∨ isNum x = true) (hl : t.1.length < 16000) (h : tOk s (if x = 65 then tGive 0 t else if x = 66 then tGive 1 t else tNum x t) K) : zCT zZC zmX7_followPlain [.ref 7, .int (nI x)] s (zQv K) QX := by
  refine rX7_followPlain ?_
  unfold PX7_followPlain_0
  have c65 : nI x = (65 : Int32) ↔ x = 65 := nI_eq (b := 65) (by omega) (by decide)
  have c66 : nI x = (66 : Int32) ↔ x = 66 := nI_eq (b := 66) (by omega) (by decide)
  rw [c65, c66]
  refine ⟨fun q => ?_, fun q => ⟨fun q2 => ?_, fun q2 => ?_⟩⟩
  · rw [if_pos q] at h
    exact ty_leave hs (n := 0) (by decide) rfl hl (fun s1 k1 h1 => h.up k1 h1)
  · rw [if_neg q, if_pos q2] at h
    exact ty_leave hs (n := 1) (by decide) rfl hl (fun s1 k1 h1 => h.up k1 h1)
  · rw [if_neg q, if_neg q2] at h
    have hn : isNum x = true := by rcases hn with z | z | z; exact absurd z q; exact absurd z q2; exact z
    unfold tNum at h
    rw [nu_eq x hx hn] at h
    have h : tOk s (tTurns (cond (nTL x) 1 0) (cond (nT2 x) 2 1) (cond (nLL x) 1 0) t) K := h
    have giv : ∀ (l : Nat) (u : tT) (s1 : zS), tzR s s1 → tG s1 u → u.1.length < 16000 → tOk s (tGive (cond (nLL x) 1 0) u) K → ∀ K' : Int32 → zS → Prop, (∀ r s', K' r s' = ((r = 0 → zCT zZC zmX3_leave [.ref 5, .int (127 : Int32)] s' (zQv (fun s11 => zQv K none s11)) QX) ∧ (¬ r = 0 → zCT zZC zmX3_leave [.ref 5, .int (126 : Int32)] s' (zQv (fun s12 => zQv K none s12)) QX))) → zCT zZC zmX7_leavesLong [.int (nI x)] s1 (zQi K') QX := by
      intro _ u s1 k1 h1 hl1 h K' hK
      refine rv_leavesLong hx ?_
      rw [hK]
      cases q3 : nLL x with
      | false =>
        rw [q3] at h
        exact ⟨fun _ => ty_leave h1 (n := 0) (by decide) rfl hl1 (fun s2 k2 h2 => h.up (k1.trans k2) h2), fun z => absurd rfl z⟩
      | true =>
        rw [q3] at h
        exact ⟨fun z => absurd z (by decide), fun _ => ty_leave h1 (n := 1) (by decide) rfl hl1 (fun s2 k2 h2 => h.up (k1.trans k2) h2)⟩
    have dwn : ∀ (s1 : zS), sV s1 → (∀ u, tzR s1 u → K u) → ∀ K' : Int32 → zS → Prop, (∀ r s', K' r s' = ((r = 0 → zCT zZC zmX3_leave [.ref 5, .int (127 : Int32)] s' (zQv (fun s11 => zQv K none s11)) QX) ∧ (¬ r = 0 → zCT zZC zmX3_leave [.ref 5, .int (126 : Int32)] s' (zQv (fun s12 => zQv K none s12)) QX))) → zCT zZC zmX7_leavesLong [.int (nI x)] s1 (zQi K') QX := by
      intro s1 v1 dd K' hK
      refine zf_X7_leavesLong v1 (fun r s2 _ k2 => ?_)
      rw [hK]
      exact ⟨fun _ => zf_X3_leave k2.2 (fun s3 k3 => dd s3 (k2.trans k3)), fun _ => zf_X3_leave k2.2 (fun s3 k3 => dd s3 (k2.trans k3))⟩
    refine rv_takesLong hx ?_
    cases q4 : nTL x with
    | false =>
      rw [q4] at h
      refine ⟨fun _ => ?_, fun z => absurd rfl z⟩
      cases q5 : nT2 x with
      | false =>
        rw [q5] at h
        have h : tOk s (tGive (cond (nLL x) 1 0) (tTake 0 t).2) K := h
        refine ty_take hs (n := 0) (by decide) rfl (fun f _ s1 k1 h1 => rv_takesTwo hx ?_) (fun f v s1 k1 z1 => rv_takesTwo hx ?_)
        · rw [q5]; exact ⟨fun _ => giv 0 _ s1 k1 h1 (Nat.lt_of_le_of_lt (tTake_len _ _) hl) h _ (fun _ _ => rfl), fun z => absurd rfl z⟩
        · rw [q5]; exact ⟨fun _ => dwn s1 k1.2 (h.dn (by rw [tGive_fl]; exact f) k1 z1) _ (fun _ _ => rfl), fun z => absurd rfl z⟩
      | true =>
        rw [q5] at h
        have h : tOk s (tGive (cond (nLL x) 1 0) (tTake 0 (tTake 0 t).2).2) K := h
        refine ty_take hs (n := 0) (by decide) rfl (fun f _ s1 k1 h1 => rv_takesTwo hx ?_) (fun f v s1 k1 z1 => rv_takesTwo hx ?_)
        · rw [q5]
          refine ⟨fun z => absurd z (by decide), fun _ => ?_⟩
          exact ty_take h1 (n := 0) (by decide) rfl (fun f2 _ s2 k2 h2 => giv 0 _ s2 (k1.trans k2) h2 (Nat.lt_of_le_of_lt (Nat.le_trans (tTake_len _ _) (tTake_len _ _)) hl) h _ (fun _ _ => rfl)) (fun f2 v s2 k2 z2 => dwn s2 k2.2 (h.dn (by rw [tGive_fl]; exact f2) (k1.trans k2) z2) _ (fun _ _ => rfl))
        · rw [q5]
          refine ⟨fun z => absurd z (by decide), fun _ => ?_⟩
          have dd := h.dn (by rw [tGive_fl]; exact tTake_fl f) k1 z1
          exact zf_X3_take k1.2 (fun v s2 k2 => dwn s2 k2.2 (fun u ku => dd u (k2.trans ku)) _ (fun _ _ => rfl))
    | true =>
      rw [q4] at h
      refine ⟨fun z => absurd z (by decide), fun _ => ?_⟩
      cases q5 : nT2 x with
      | false =>
        rw [q5] at h
        have h : tOk s (tGive (cond (nLL x) 1 0) (tTake 1 t).2) K := h
        refine ty_take hs (n := 1) (by decide) rfl (fun f _ s1 k1 h1 => rv_takesTwo hx ?_) (fun f v s1 k1 z1 => rv_takesTwo hx ?_)
        · rw [q5]; exact ⟨fun _ => giv 0 _ s1 k1 h1 (Nat.lt_of_le_of_lt (tTake_len _ _) hl) h _ (fun _ _ => rfl), fun z => absurd rfl z⟩
        · rw [q5]; exact ⟨fun _ => dwn s1 k1.2 (h.dn (by rw [tGive_fl]; exact f) k1 z1) _ (fun _ _ => rfl), fun z => absurd rfl z⟩
      | true =>
        rw [q5] at h
        have h : tOk s (tGive (cond (nLL x) 1 0) (tTake 1 (tTake 1 t).2).2) K := h
        refine ty_take hs (n := 1) (by decide) rfl (fun f _ s1 k1 h1 => rv_takesTwo hx ?_) (fun f v s1 k1 z1 => rv_takesTwo hx ?_)
        · rw [q5]
          refine ⟨fun z => absurd z (by decide), fun _ => ?_⟩
          exact ty_take h1 (n := 1) (by decide) rfl (fun f2 _ s2 k2 h2 => giv 0 _ s2 (k1.trans k2) h2 (Nat.lt_of_le_of_lt (Nat.le_trans (tTake_len _ _) (tTake_len _ _)) hl) h _ (fun _ _ => rfl)) (fun f2 v s2 k2 z2 => dwn s2 k2.2 (h.dn (by rw [tGive_fl]; exact f2) (k1.trans k2) z2) _ (fun _ _ => rfl))
        · rw [q5]
          refine ⟨fun z => absurd z (by decide), fun _ => ?_⟩
          have dd := h.dn (by rw [tGive_fl]; exact tTake_fl f) k1 z1
          exact zf_X3_take k1.2 (fun v s2 k2 => dwn s2 k2.2 (fun u ku => dd u (k2.trans ku)) _ (fun _ _ => rfl))
