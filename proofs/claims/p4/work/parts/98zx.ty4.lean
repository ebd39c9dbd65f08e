theorem ac96 {s : zS} {t : tT} {x : Nat} {K : zS → Prop} {QX : zS → Prop} (hs : tG s t) (hx : x < 256) (hl : t.1.length < 16000) (h : tOk s (if 54 ≤ x then (tTake 0 (tTake 1 t).2).2 else tGive 1 (tTake 0 t).2) K) : PX7_followAccess_96 (zQv K) QX (nI x) s := by
  unfold PX7_followAccess_96
  have c : nI x < (54 : Int32) ↔ x < 54 := nI_ltI (b := 54) (by omega) (by decide)
  rw [c]
  refine ⟨fun z => absurd z (by decide), fun _ => ⟨fun q => ?_, fun q => ?_⟩⟩
  · rw [if_neg (by omega)] at h
    refine ty_take hs (n := 0) (by decide) rfl (fun f _ s1 k1 h1 => ?_) (fun f v s1 k1 z1 => ?_)
    · exact ty_leave h1 (n := 1) (by decide) rfl (Nat.lt_of_le_of_lt (tTake_len _ _) hl) (fun s2 k2 h2 => h.up (k1.trans k2) h2)
    · exact zf_X3_leave k1.2 (fun s2 k2 => h.dn (by rw [tGive_fl]; exact f) k1 z1 s2 k2)
  · rw [if_pos (by omega)] at h
    refine ty_take hs (n := 1) (by decide) rfl (fun f _ s1 k1 h1 => ?_) (fun f v s1 k1 z1 => ?_)
    · exact ty_take h1 (n := 0) (by decide) rfl (fun f2 _ s2 k2 h2 => h.up (k1.trans k2) h2) (fun f2 v s2 k2 z2 => h.dn f2 (k1.trans k2) z2 s2 (tzR.rf k2.2))
    · exact zf_X3_take k1.2 (fun v s2 k2 => h.dn (tTake_fl f) k1 z1 s2 k2)
theorem ac84 {s : zS} {t : tT} {x : Nat} {K : zS → Prop} {QX : zS → Prop} (hs : tG s t) (hx : x < 256) (hl : t.1.length < 16000) (h1 : x = 55 ∨ 60 ≤ x → vt0 x = 1) (h0 : ¬ x = 55 → x < 60 → vt0 x = 0) (h : tOk s (if 54 ≤ x then (tTake 0 (tTake (vt0 x) t).2).2 else tGive (vt0 x) (tTake 0 t).2) K) : PX7_followAccess_84 (zQv K) QX (nI x) s := by
  unfold PX7_followAccess_84
  have c55 : nI x = (55 : Int32) ↔ x = 55 := nI_eq (b := 55) (by omega) (by decide)
  have c60 : nI x < (60 : Int32) ↔ x < 60 := nI_ltI (b := 60) (by omega) (by decide)
  have c : nI x < (54 : Int32) ↔ x < 54 := nI_ltI (b := 54) (by omega) (by decide)
  rw [c55, c60, c]
  refine ⟨fun q => ?_, fun q => ⟨fun q2 => ⟨fun _ => ⟨fun q => ?_, fun q => ?_⟩, fun z => absurd rfl z⟩, fun q2 => ?_⟩⟩
  · rw [h1 (Or.inl q)] at h; exact ac96 hs hx hl h
  · rw [h0 (by omega) (by omega), if_neg (by omega)] at h
    refine ty_take hs (n := 0) (by decide) rfl (fun f _ s1 k1 h1 => ?_) (fun f v s1 k1 z1 => ?_)
    · exact ty_leave h1 (n := 0) (by decide) rfl (Nat.lt_of_le_of_lt (tTake_len _ _) hl) (fun s2 k2 h2 => h.up (k1.trans k2) h2)
    · exact zf_X3_leave k1.2 (fun s2 k2 => h.dn (by rw [tGive_fl]; exact f) k1 z1 s2 k2)
  · rw [h0 (by omega) (by omega), if_pos (by omega)] at h
    refine ty_take hs (n := 0) (by decide) rfl (fun f _ s1 k1 h1 => ?_) (fun f v s1 k1 z1 => ?_)
    · exact ty_take h1 (n := 0) (by decide) rfl (fun f2 _ s2 k2 h2 => h.up (k1.trans k2) h2) (fun f2 v s2 k2 z2 => h.dn f2 (k1.trans k2) z2 s2 (tzR.rf k2.2))
    · exact zf_X3_take k1.2 (fun v s2 k2 => h.dn (tTake_fl f) k1 z1 s2 k2)
  · rw [h1 (Or.inr (by omega))] at h; exact ac96 hs hx hl h
def isAcc (x : Nat) : Bool := decide (40 ≤ x) && decide (x ≤ 62) && !decide (x = 42) && !decide (x = 43) && !decide (x = 56) && !decide (x = 57)
theorem acc_w : ∀ x, x < 63 → isAcc x = true → zt_ACCESS_WIDTHS_f (x - 40) = nI (wd0 x) ∧ wd0 x < 4 := by decide +kernel
theorem acc_v : ∀ x, x < 63 → isAcc x = true → vt0 x = (if x = 41 ∨ (48 ≤ x ∧ x ≤ 53) ∨ x = 55 ∨ 60 ≤ x then 1 else 0) ∧ isStN x = decide (54 ≤ x) := by decide +kernel
theorem fo_access {s : zS} {t : tT} {x k nm : Nat} {K : zS → Prop} {QX : zS → Prop} (hs : tG s t) (hm : s.1 2 11 = nI nm) (hm2 : nm < 2 ^ 30) (hx : isAcc x = true) (hk : k < 2 ^ 35) (hl : t.1.length < 16000)
    (h : tOk s (if 54 ≤ x then (tTake 0 (tTake (vt0 x) (tNeed (decide (0 < nm) && decide (k ≤ wd0 x)) t)).2).2 else tGive (vt0 x) (tTake 0 (tNeed (decide (0 < nm) && decide (k ≤ wd0 x)) t)).2) K) : zCT zZC zmX7_followAccess [.ref 7, .int (nI x), .long (lN k)] s (zQv K) QX := by
  have hx2 : 40 ≤ x ∧ x ≤ 62 := by
    unfold isAcc at hx
    simp only [Bool.and_eq_true, decide_eq_true_eq] at hx
    omega
  obtain ⟨ew, hw4⟩ := acc_w x (by omega) hx
  have ev := (acc_v x (by omega) hx).1
  have fl : ∀ c, c = false → (if 54 ≤ x then (tTake 0 (tTake (vt0 x) (tNeed c t)).2).2 else tGive (vt0 x) (tTake 0 (tNeed c t)).2).2.2 = false := by
    intro c hc
    rw [hc]
    by_cases q : 54 ≤ x
    · rw [if_pos q]; exact tTake_fl (tTake_fl (tNeed_f t))
    · rw [if_neg q, tGive_fl]; exact tTake_fl (tNeed_f t)
  refine rX7_followAccess ?_
  unfold PX7_followAccess_0
  have c1 : (s.1 2 11) ≤ (0 : Int32) ↔ nm = 0 := by rw [hm, show (0 : Int32) = nI 0 from rfl, nI_leI (by omega) (by decide)]; omega
  refine ⟨fun q => ?_, fun q => ?_⟩
  · refine ty_demand (c := false) hs.1 rfl (fun z => absurd z (by decide)) (fun _ s1 k1 z1 => ?_)
    exact zr_X7_followAccess_0_0 k1.2 (h.dn (fl _ (by rw [decide_eq_false (by have := c1.1 q; omega), Bool.false_and])) k1 z1)
  · refine ty_demand (c := true) hs.1 rfl (fun _ => ?_) (fun z => absurd z (by decide))
    have e40 : nI x - (40 : Int32) = nI (x - 40) := pk_sub (b := 40) hx2.1
    rw [decide_eq_true (show 0 < nm by have := mt c1.2 q; omega), Bool.true_and] at h
    refine ⟨fun z => absurd z (by rw [e40]; exact nI_pos (by omega)), fun _ => ⟨fun z => absurd (by rw [e40] at z; exact (nI_leI (a := 23) (by decide) (by omega)).1 z) (by omega), fun _ => ⟨?_, fun qw => ?_, fun qw => ?_⟩⟩⟩
    · rw [e40]; exact vp_in_nI (by show x - 40 < 23; omega) (by decide)
    · have qw2 : wd0 x < k := by
        rw [e40, nI_clamp (by omega), ew, nI_l (by omega), lN_ltB (by omega) (by omega)] at qw
        exact qw
      refine ty_demand (c := false) hs.1 rfl (fun z => absurd z (by decide)) (fun _ s1 k1 z1 => ?_)
      exact zr_X7_followAccess_0_8 k1.2 (h.dn (fl _ (decide_eq_false (by omega))) k1 z1)
    · have qw2 : ¬ wd0 x < k := by
        rw [e40, nI_clamp (by omega), ew, nI_l (by omega), lN_ltB (by omega) (by omega)] at qw
        exact qw
      refine ty_demand (c := true) hs.1 rfl (fun _ => ?_) (fun z => absurd z (by decide))
      rw [decide_eq_true (show k ≤ wd0 x by omega), tNeed_t] at h
      have c41 : nI x = (41 : Int32) ↔ x = 41 := nI_eq (b := 41) (by omega) (by decide)
      have c48 : nI x < (48 : Int32) ↔ x < 48 := nI_ltI (b := 48) (by omega) (by decide)
      have c53 : nI x ≤ (53 : Int32) ↔ x ≤ 53 := nI_leI (b := 53) (by omega) (by decide)
      rw [c41, c48, c53]
      have j96 : (x = 41 ∨ (48 ≤ x ∧ x ≤ 53)) → PX7_followAccess_96 (zQv K) QX (nI x) s := fun z => by
        have e1 : vt0 x = 1 := by rw [ev, if_pos (by omega)]
        rw [e1] at h
        exact ac96 hs (by omega) hl h
      have j84 : ¬ (x = 41 ∨ (48 ≤ x ∧ x ≤ 53)) → PX7_followAccess_84 (zQv K) QX (nI x) s := fun z =>
        ac84 hs (by omega) hl (fun z => by rw [ev, if_pos (by omega)]) (fun z1 z2 => by rw [ev, if_neg (by omega)]) h
      exact ⟨fun z => j96 (by omega), fun z => ⟨fun z2 => j84 (by omega), fun z2 => ⟨fun z3 => j96 (by omega), fun z3 => j84 (by omega)⟩⟩⟩
/-! the instructions behind 252 -/
theorem tTakeL_fl : ∀ (l : List Nat) {u : tT}, u.2.2 = false → (tTakeL l u).2.2 = false := by
  intro l
  induction l with
  | nil => intro u hu; exact hu
  | cons y r ih => intro u hu; exact ih (tTake_fl hu)
theorem lo159 {s : zS} {t : tT} {n : Nat} {K : zS → Prop} {QX : zS → Prop} (hs : tG s t) (hn : 8 ≤ n ∧ n ≤ 14) (h : tOk s (tM232 n t) K) : PX7_followLonger_159 (zQv K) QX (nI (256 + n)) s := by
  unfold PX7_followLonger_159
  have c9 : nI (256 + n) = (265 : Int32) ↔ n = 9 := by rw [show (265 : Int32) = nI 265 from rfl, nI_eq (by omega) (by decide)]; omega
  have c13 : nI (256 + n) = (269 : Int32) ↔ n = 13 := by rw [show (269 : Int32) = nI 269 from rfl, nI_eq (by omega) (by decide)]; omega
  unfold tM232 at h
  rw [c9, c13]
  refine ⟨fun q => ?_, fun q => ⟨fun q2 => ?_, fun q2 => ?_⟩⟩
  · rw [if_pos q] at h; exact h.up (tzR.rf hs.1) hs
  · rw [if_neg q, if_pos q2] at h; exact h.up (tzR.rf hs.1) hs
  · rw [if_neg q, if_neg q2] at h
    have h : tOk s (tTake 0 (tTake 0 (tTake 0 t).2).2).2 K := h
    refine ty_take hs (n := 0) (by decide) rfl (fun f _ s1 k1 h1 => ?_) (fun f v s1 k1 z1 => ?_)
    · refine ty_take h1 (n := 0) (by decide) rfl (fun f2 _ s2 k2 h2 => ?_) (fun f2 v s2 k2 z2 => ?_)
      · exact ty_take h2 (n := 0) (by decide) rfl (fun f3 _ s3 k3 h3 => h.up ((k1.trans k2).trans k3) h3) (fun f3 v s3 k3 z3 => h.dn f3 ((k1.trans k2).trans k3) z3 s3 (tzR.rf k3.2))
      · exact zf_X3_take k2.2 (fun v s3 k3 => h.dn (tTake_fl f2) (k1.trans k2) z2 s3 k3)
    · exact zf_X3_take k1.2 (fun v s2 k2 => zf_X3_take k2.2 (fun v s3 k3 => h.dn (tTake_fl (tTake_fl f)) k1 z1 s3 (k2.trans k3)))
theorem tM232_fl {n : Nat} {t : tT} (h : t.2.2 = false) : (tM232 n t).2.2 = false := by
  unfold tM232
  split
  · exact h
  · split
    · exact h
    · unfold tTurns; rw [tGive_fl]; exact tTakeL_fl _ h
theorem tNeed_fl {c : Bool} {t : tT} (h : t.2.2 = false) : (tNeed c t).2.2 = false := by unfold tNeed; rw [h]; rfl
/-- demand c, then go on -/
theorem lo_need {s : zS} {t t2 : tT} {c : Bool} {x : Int32} {K K' : zS → Prop} {QX : zS → Prop} (hs : tG s t) (hx : x = bI c) (hfl : c = false → t2.2.2 = false) (h : tOk s t2 K) (hg : c = true → K' s) (hb : ∀ s1, tzR s s1 → (∀ u, tzR s1 u → K u) → K' s1) : zCT zZC zmX3_demand [.ref 5, .int x] s (zQv K') QX :=
  ty_demand hs.1 hx hg (fun hc s1 k1 z1 => hb s1 k1 (h.dn (hfl hc) k1 z1))
def tB207 (tab : Bool) (n : Nat) (t : tT) : tT := if n = 12 then tM232 n (tNeed tab t) else if n = 14 then tM232 n (tNeed tab t) else tM232 n t
def tB174 (mem tab : Bool) (n : Nat) (t : tT) : tT := if n = 8 then tB207 tab n (tNeed mem t) else if n = 10 then tB207 tab n (tNeed mem t) else if n = 11 then tB207 tab n (tNeed mem t) else tB207 tab n t
def tB138 (el mem tab : Bool) (n : Nat) (t : tT) : tT := if n = 12 then tB174 mem tab n (tNeed el t) else if n = 13 then tB174 mem tab n (tNeed el t) else tB174 mem tab n t
def tB0 (dt el mem tab : Bool) (n : Nat) (t : tT) : tT := if n = 8 then tB138 el mem tab n (tNeed dt t) else if n = 9 then tB138 el mem tab n (tNeed dt t) else tB138 el mem tab n t
theorem tB207_fl {tab : Bool} {n : Nat} {t : tT} (h : t.2.2 = false) : (tB207 tab n t).2.2 = false := by
  unfold tB207; split
  · exact tM232_fl (tNeed_fl h)
  · split
    · exact tM232_fl (tNeed_fl h)
    · exact tM232_fl h
theorem tB174_fl {mem tab : Bool} {n : Nat} {t : tT} (h : t.2.2 = false) : (tB174 mem tab n t).2.2 = false := by
  unfold tB174; split
  · exact tB207_fl (tNeed_fl h)
  · split
    · exact tB207_fl (tNeed_fl h)
    · split
      · exact tB207_fl (tNeed_fl h)
      · exact tB207_fl h
theorem tB138_fl {el mem tab : Bool} {n : Nat} {t : tT} (h : t.2.2 = false) : (tB138 el mem tab n t).2.2 = false := by
  unfold tB138; split
  · exact tB174_fl (tNeed_fl h)
  · split
    · exact tB174_fl (tNeed_fl h)
    · exact tB174_fl h
theorem fo_longer {s : zS} {t : tT} {n k nt nm ne : Nat} {nd : Option Nat} {K : zS → Prop} {QX : zS → Prop} (hs : tG s t) (hn : 8 ≤ n ∧ n ≤ 14) (hk : n = 8 ∨ n = 9 ∨ n = 12 ∨ n = 13 → k < 2 ^ 35) (ht : s.1 2 10 = nI nt) (ht2 : nt < 2 ^ 30) (hm : s.1 2 11 = nI nm) (hm2 : nm < 2 ^ 30) (he : s.1 18 9 = nI ne) (he2 : ne < 2 ^ 30) (hd : s.2 2 14 = optL nd) (hd2 : ∀ m, nd = some m → m < 2 ^ 35)
    (h : tOk s (tB0 (decide (∃ m, nd = some m ∧ k < m)) (decide (k < ne)) (decide (0 < nm)) (decide (0 < nt)) n t) K) : zCT zZC zmX7_followLonger [.ref 7, .int (nI (256 + n)), .long (lN k)] s (zQv K) QX := by
  refine rX7_followLonger ?_
  have cc : ∀ j, j < 200 → (nI (256 + n) = (nI (256 + j)) ↔ n = j) := fun j hj => by rw [nI_eq (by omega) (by omega)]; omega
  have c8 : nI (256 + n) = (264 : Int32) ↔ n = 8 := cc 8 (by decide)
  have c9 : nI (256 + n) = (265 : Int32) ↔ n = 9 := cc 9 (by decide)
  have c10 : nI (256 + n) = (266 : Int32) ↔ n = 10 := cc 10 (by decide)
  have c11 : nI (256 + n) = (267 : Int32) ↔ n = 11 := cc 11 (by decide)
  have c12 : nI (256 + n) = (268 : Int32) ↔ n = 12 := cc 12 (by decide)
  have c13 : nI (256 + n) = (269 : Int32) ↔ n = 13 := cc 13 (by decide)
  have c14 : nI (256 + n) = (270 : Int32) ↔ n = 14 := cc 14 (by decide)
  have j137 : ∀ {t : tT}, tG s t → tOk s (tM232 n (tNeed (decide (0 < nt)) t)) K → PX7_followLonger_137 (zQv K) QX (nI (256 + n)) s := by
    intro t hs h
    unfold PX7_followLonger_137
    have c1 : (s.1 2 10) ≤ (0 : Int32) ↔ nt = 0 := by rw [ht, show (0 : Int32) = nI 0 from rfl, nI_leI (by omega) (by decide)]; omega
    rw [c1]
    refine ⟨fun q => ?_, fun q => ?_⟩
    · rw [decide_eq_false (by omega)] at h
      exact lo_need (c := false) hs rfl (fun _ => tM232_fl (tNeed_f t)) h (fun z => absurd z (by decide)) (fun s1 k1 dd => zj_X7_followLonger_159 k1.2 dd)
    · rw [decide_eq_true (by omega), tNeed_t] at h
      exact lo_need (c := true) hs rfl (fun z => absurd z (by decide)) h (fun _ => lo159 hs hn h) (fun s1 k1 dd => zj_X7_followLonger_159 k1.2 dd)
  have j123 : ∀ {t : tT}, tG s t → tOk s (tB207 (decide (0 < nt)) n t) K → PX7_followLonger_123 (zQv K) QX (nI (256 + n)) s := by
    intro t hs h
    unfold PX7_followLonger_123
    unfold tB207 at h
    rw [c12, c14]
    refine ⟨fun q => ?_, fun q => ⟨fun q2 => ?_, fun q2 => ?_⟩⟩
    · rw [if_pos q] at h; exact j137 hs h
    · rw [if_neg q, if_pos q2] at h; exact j137 hs h
    · rw [if_neg q, if_neg q2] at h; exact lo159 hs hn h
  have j101 : ∀ {t : tT}, tG s t → tOk s (tB207 (decide (0 < nt)) n (tNeed (decide (0 < nm)) t)) K → PX7_followLonger_101 (zQv K) QX (nI (256 + n)) s := by
    intro t hs h
    unfold PX7_followLonger_101
    have c1 : (s.1 2 11) ≤ (0 : Int32) ↔ nm = 0 := by rw [hm, show (0 : Int32) = nI 0 from rfl, nI_leI (by omega) (by decide)]; omega
    rw [c1]
    refine ⟨fun q => ?_, fun q => ?_⟩
    · rw [decide_eq_false (show ¬ 0 < nm by omega)] at h
      exact lo_need (c := false) hs rfl (fun _ => tB207_fl (tNeed_f t)) h (fun z => absurd z (by decide)) (fun s1 k1 dd => zj_X7_followLonger_123 k1.2 dd)
    · rw [decide_eq_true (show 0 < nm by omega), tNeed_t] at h
      exact lo_need (c := true) hs rfl (fun z => absurd z (by decide)) h (fun _ => j123 hs h) (fun s1 k1 dd => zj_X7_followLonger_123 k1.2 dd)
  have j80 : ∀ {t : tT}, tG s t → tOk s (tB174 (decide (0 < nm)) (decide (0 < nt)) n t) K → PX7_followLonger_80 (zQv K) QX (nI (256 + n)) s := by
    intro t hs h
    unfold PX7_followLonger_80
    unfold tB174 at h
    rw [c8, c10, c11]
    refine ⟨fun q => ?_, fun q => ⟨fun q2 => ?_, fun q2 => ⟨fun q3 => ?_, fun q3 => ?_⟩⟩⟩
    · rw [if_pos q] at h; exact j101 hs h
    · rw [if_neg q, if_pos q2] at h; exact j101 hs h
    · rw [if_neg q, if_neg q2, if_pos q3] at h; exact j101 hs h
    · rw [if_neg q, if_neg q2, if_neg q3] at h; exact j123 hs h
  have j52 : k < 2 ^ 35 → ∀ {t : tT}, tG s t → tOk s (tB174 (decide (0 < nm)) (decide (0 < nt)) n (tNeed (decide (k < ne)) t)) K → PX7_followLonger_52 (zQv K) QX (nI (256 + n)) (lN k) s := by
    intro hk t hs h
    unfold PX7_followLonger_52
    have c1 : ((s.1 18 (9 : Int32).toNatClampNeg).toInt64) ≤ lN k ↔ ne ≤ k := by rw [show (9 : Int32).toNatClampNeg = 9 from rfl, he, nI_l (by omega), lN_leB (by omega) (by omega)]
    rw [c1]
    refine ⟨by unfold vp_in; decide, fun q => ?_, fun q => ?_⟩
    · rw [decide_eq_false (show ¬ k < ne by omega)] at h
      exact lo_need (c := false) hs rfl (fun _ => tB174_fl (tNeed_f t)) h (fun z => absurd z (by decide)) (fun s1 k1 dd => zj_X7_followLonger_80 k1.2 dd)
    · rw [decide_eq_true (show k < ne by omega), tNeed_t] at h
      exact lo_need (c := true) hs rfl (fun z => absurd z (by decide)) h (fun _ => j80 hs h) (fun s1 k1 dd => zj_X7_followLonger_80 k1.2 dd)
  have j38 : ∀ {t : tT}, tG s t → tOk s (tB138 (decide (k < ne)) (decide (0 < nm)) (decide (0 < nt)) n t) K → PX7_followLonger_38 (zQv K) QX (nI (256 + n)) (lN k) s := by
    intro t hs h
    unfold PX7_followLonger_38
    unfold tB138 at h
    rw [c12, c13]
    refine ⟨fun q => ?_, fun q => ⟨fun q2 => ?_, fun q2 => ?_⟩⟩
    · rw [if_pos q] at h; exact j52 (hk (by omega)) hs h
    · rw [if_neg q, if_pos q2] at h; exact j52 (hk (by omega)) hs h
    · rw [if_neg q, if_neg q2] at h; exact j80 hs h
  have j14 : k < 2 ^ 35 → ∀ {t : tT}, tG s t → tOk s (tB138 (decide (k < ne)) (decide (0 < nm)) (decide (0 < nt)) n (tNeed (decide (∃ m, nd = some m ∧ k < m)) t)) K → PX7_followLonger_14 (zQv K) QX (nI (256 + n)) (lN k) s := by
    intro hk t hs h
    unfold PX7_followLonger_14
    have c1 : (s.2 2 14) ≤ lN k ↔ ¬ ∃ m, nd = some m ∧ k < m := by
      rw [hd]
      cases hnd : nd with
      | none =>
        refine ⟨fun _ => ?_, fun _ => ?_⟩
        · rintro ⟨m, z, _⟩; cases z
        · show (-1 : Int64) ≤ lN k
          have h0 : (0 : Int64) ≤ lN k := (lN_leB (a := 0) (by decide) (by omega)).2 (Nat.zero_le _)
          exact Int64.le_trans (by decide) h0
      | some m =>
        have hm := hd2 m hnd
        show lN m ≤ lN k ↔ _
        rw [lN_leB (by omega) (by omega)]
        refine ⟨fun q => ?_, fun q => ?_⟩
        · rintro ⟨m', z, z2⟩; cases z; omega
        · rcases Nat.lt_or_ge k m with z | z
          · exact absurd ⟨m, rfl, z⟩ q
          · exact z
    rw [c1]
    refine ⟨fun q => ?_, fun q => ?_⟩
    · rw [decide_eq_false q] at h
      exact lo_need (c := false) hs rfl (fun _ => tB138_fl (tNeed_f t)) h (fun z => absurd z (by decide)) (fun s1 k1 dd => zj_X7_followLonger_38 k1.2 dd)
    · rw [decide_eq_true (Decidable.not_not.1 q), tNeed_t] at h
      exact lo_need (c := true) hs rfl (fun z => absurd z (by decide)) h (fun _ => j38 hs h) (fun s1 k1 dd => zj_X7_followLonger_38 k1.2 dd)
  unfold PX7_followLonger_0
  unfold tB0 at h
  rw [c8, c9]
  refine ⟨fun q => ?_, fun q => ⟨fun q2 => ?_, fun q2 => ?_⟩⟩
  · rw [if_pos q] at h; exact j14 (hk (by omega)) hs h
  · rw [if_neg q, if_pos q2] at h; exact j14 (hk (by omega)) hs h
  · rw [if_neg q, if_neg q2] at h; exact j38 hs h
