theorem fo_tail {s : zS} {t : tT} {K : zS → Prop} {QX : zS → Prop} (hs : tG s t) (h : tOk s (tClose t) K) : zCT zZC zmX3_result [.ref 5] s (zQi (fun r3 s2 => zCT zZC zmX3_take [.ref 5, .int r3] s2 (zQi (fun r5 s4 => zCT zZC zmX3_isEmpty [.ref 5] s4 (zQi (fun r7 s6 => zCT zZC zmX3_demand [.ref 5, .int r7] s6 (zQv (fun s8 => zQv K none s8)) QX)) QX)) QX)) QX := by
  refine ty_result hs (fun hr => ?_)
  refine ty_take hs (by omega) rfl (fun f _ s1 k1 h1 => ?_) (fun f v s1 k1 z1 => ?_)
  · refine ty_isEmpty h1 ?_
    unfold tClose at h
    have eb : tBase (tTake (tRes t) t).2 = tBase t := tTake_b _ _
    rw [eb]
    cases q : decide ((tTake (tRes t) t).2.1.length = tBase t) with
    | false =>
      rw [q] at h
      exact ty_demand (c := false) h1.1 rfl (fun z => absurd z (by decide)) (fun _ s2 k2 z2 => h.dn (tNeed_f _) (k1.trans k2) z2 s2 (tzR.rf k2.2))
    | true =>
      rw [q, tNeed_t] at h
      exact ty_demand (c := true) h1.1 rfl (fun _ => h.up k1 h1) (fun z => absurd z (by decide))
  · have dd := h.dn (show (tClose t).2.2 = false from tNeed_fl f) k1 z1
    exact zf_X3_isEmpty k1.2 (fun r s2 _ k2 => zf_X3_demand k2.2 (fun s3 k3 => dd s3 (k2.trans k3)))
theorem fo_tail_b {s : zS} {K : zS → Prop} {QX : zS → Prop} (hv : sV s) (dd : ∀ u, tzR s u → K u) : zCT zZC zmX3_result [.ref 5] s (zQi (fun r3 s2 => zCT zZC zmX3_take [.ref 5, .int r3] s2 (zQi (fun r5 s4 => zCT zZC zmX3_isEmpty [.ref 5] s4 (zQi (fun r7 s6 => zCT zZC zmX3_demand [.ref 5, .int r7] s6 (zQv (fun s8 => zQv K none s8)) QX)) QX)) QX)) QX :=
  zf_X3_result hv (fun r s1 k1 => zf_X3_take k1.2 (fun v s2 k2 => zf_X3_isEmpty k2.2 (fun r s3 _ k3 => zf_X3_demand k3.2 (fun s4 k4 => dd s4 (((k1.trans k2).trans k3).trans k4)))))
/-- what stands ahead of a frame's turn -/
def tPreF (x : Nat) (t : tT) : tT := if x = 0 then tRest t else if x = 4 then (tTake 0 t).2 else if x = 5 then tClose t else if x = 11 then tNeed (decide (¬ tTopW t = 4) || decide (tRes t = 2)) (tClose t) else t
theorem fo_frame {s : zS} {t : tT} {x : Nat} {K : zS → Prop} {QX : zS → Prop} (hs : tG s t) (hx : x < 256) (h : tOk s (tPreF x t) K) : zCT zZC zmX7_followFrame [.ref 7, .int (nI x)] s (zQv K) QX := by
  refine rX7_followFrame ?_
  unfold PX7_followFrame_0
  have c0 : nI x = (0 : Int32) ↔ x = 0 := nI_eq (b := 0) (by omega) (by decide)
  have c4 : nI x = (4 : Int32) ↔ x = 4 := nI_eq (b := 4) (by omega) (by decide)
  have c5 : nI x = (5 : Int32) ↔ x = 5 := nI_eq (b := 5) (by omega) (by decide)
  have c11 : nI x = (11 : Int32) ↔ x = 11 := nI_eq (b := 11) (by omega) (by decide)
  unfold tPreF at h
  rw [c0, c4, c5, c11]
  have j64 : tOk s (tClose t) K → PX7_followFrame_64 (zQv K) QX s := by
    intro h
    unfold PX7_followFrame_64
    exact ⟨fun _ => ty_demand (c := true) hs.1 rfl (fun _ => fo_tail hs h) (fun z => absurd z (by decide)), fun z => absurd rfl z⟩
  have top : tRes t ≤ 2 := hs.2.2.2.top.2.2.2.2
  refine ⟨fun q => ?_, fun q0 => ⟨fun q => ?_, fun q4 => ⟨fun q => ?_, fun q5 => ⟨fun q => ?_, fun q11 => ?_⟩⟩⟩⟩
  · rw [if_pos q] at h
    exact ty_forget hs (fun s1 k1 h1 => h.up k1 h1)
  · rw [if_neg q0, if_pos q] at h
    exact ty_take hs (n := 0) (by decide) rfl (fun f _ s1 k1 h1 => h.up k1 h1) (fun f v s1 k1 z1 => h.dn f k1 z1 s1 (tzR.rf k1.2))
  · rw [if_neg q0, if_neg q4, if_pos q] at h
    unfold PX7_followFrame_43
    rw [c11]
    exact ⟨fun z => absurd z (by omega), fun _ => j64 h⟩
  · rw [if_neg q0, if_neg q4, if_neg q5, if_pos q] at h
    unfold PX7_followFrame_43
    rw [c11]
    refine ⟨fun _ => ?_, fun z => absurd q z⟩
    refine ty_openedBy hs (fun hw => ?_)
    have cw : nI (opW (tTopW t)) = (4 : Int32) ↔ tTopW t = 4 := by
      rw [show (4 : Int32) = nI 4 from rfl, nI_eq (by unfold opW; split <;> omega) (by decide)]
      unfold opW
      split <;> omega
    rw [cw]
    refine ⟨fun qw => ⟨fun z => absurd z (by decide), fun _ => ?_⟩, fun qw => ?_⟩
    · refine ty_result hs (fun hr => ?_)
      rw [tyN_64 (show tRes t ≤ 3 by omega)]
      rw [decide_eq_false (show ¬ ¬ tTopW t = 4 from fun z => z qw), Bool.false_or] at h
      refine ⟨fun q2 => ?_, fun q2 => ?_⟩
      · rw [decide_eq_true q2, tNeed_t] at h
        exact ty_demand (c := true) hs.1 rfl (fun _ => fo_tail hs h) (fun z => absurd z (by decide))
      · rw [decide_eq_false q2] at h
        exact ty_demand (c := false) hs.1 rfl (fun z => absurd z (by decide)) (fun _ s1 k1 z1 => fo_tail_b k1.2 (h.dn (tNeed_f _) k1 z1))
    · rw [decide_eq_true qw, Bool.true_or, tNeed_t] at h
      exact j64 h
  · rw [if_neg q0, if_neg q4, if_neg q5, if_neg q11] at h
    exact h.up (tzR.rf hs.1) hs
/-- the rest of a call: the parameters are taken, the last first -/
def cI107 (s : zS) (S : List mSigT) (y : Nat) (g : mSigT) (K : zS → Prop) (m : Nat) (x4 x5 : Int32) (σ : zS) : Prop :=
  tzR s σ ∧ m = (x5.toInt + 1).toNat ∧ ((∃ j u, S[y]? = some g ∧ j ≤ g.1.length ∧ x4 = nI y ∧ x5 = nI j - (1 : Int32) ∧ tG σ u ∧ u.1.length < 16000 ∧ tOk s (tGive g.2 (tTakeL (g.1.take j).reverse u)) K) ∨ (∀ u, tzR σ u → K u))
theorem fo_107 {s : zS} {y : Nat} {g : mSigT} {S : List mSigT} {K : zS → Prop} {QX : zS → Prop} (hS : sgR s S) (m : Nat) (x4 x5 : Int32) (σ : zS) (hI : cI107 s S y g K m x4 x5 σ) : PX7_followCall_107 (fun y4 y5 τ => ∃ n', zlt n' (some m) ∧ cI107 s S y g K n' y4 y5 τ) (zQv K) QX x4 x5 σ := by
  obtain ⟨k0, rfl, hI⟩ := hI
  have sgQ : ∀ u, tzR s u → sgR u S := fun u ku => ⟨hS.1, fun i g e => by
    obtain ⟨h1, h2, h3, h4⟩ := hS.2 i g e
    have g : ∀ c j, 11 ≤ c → c ≤ 13 → u.1 c j = s.1 c j := fun c j z1 z2 => (ku.1.1 c j (by omega)).1
    exact ⟨h1, by rw [g _ _ (by decide) (by decide)]; exact h2, fun j hj => by rw [g _ _ (by decide) (by decide)]; exact h3 j hj, by rw [g _ _ (by decide) (by decide)]; exact h4⟩⟩
  unfold PX7_followCall_107
  have bad : ∀ σ', tzR s σ' → (∀ u, tzR σ' u → K u) → ∀ z : ¬ x5 < 0, ∀ w, tzR σ' w → ∃ n', zlt n' (some (x5.toInt + 1).toNat) ∧ cI107 s S y g K n' x4 (x5 + -1) w := fun σ' k dd z w kw =>
    ⟨_, dec_1 z, k.trans kw, rfl, Or.inr (fun u ku => dd u (kw.trans ku))⟩
  rcases hI with ⟨j, u, hg, hj, rfl, rfl, hu, hl, h⟩ | dd
  · have sg := sgQ σ k0
    have hok := (hS.2 y g hg).1
    have h16 := hok.1
    cases j with
    | zero =>
      refine ⟨fun _ => ?_, fun z => absurd (show nI 0 - (1 : Int32) < 0 by decide) z⟩
      refine rd_resultOf sg hg ?_
      have h : tOk s (tGive g.2 u) K := by simpa [tTakeL] using h
      exact ty_leave hu (by have := hok.2.2; omega) rfl hl (fun s1 k1 h1 => h.up (k0.trans k1) h1)
    | succ j =>
      have e1 : nI (j + 1) - (1 : Int32) = nI j := nI_sub1
      refine ⟨fun z => absurd z (by rw [e1]; exact nI_pos (by omega)), fun z => ?_⟩
      have z' := z
      rw [e1] at z' ⊢
      refine rd_parameter sg hg (by omega) ?_
      have hp : g.1.getD j 0 ≤ 1 := by
        rw [List.getD_eq_getElem?_getD, List.getElem?_eq_getElem (show j < g.1.length by omega)]
        exact hok.2.1 _ (List.getElem_mem _)
      have e : (g.1.take (j + 1)).reverse = g.1.getD j 0 :: (g.1.take j).reverse := by
        rw [List.take_add_one, List.getD_eq_getElem?_getD, List.getElem?_eq_getElem (show j < g.1.length by omega)]
        simp
      rw [e] at h
      have h : tOk s (tGive g.2 (tTakeL (g.1.take j).reverse (tTake (g.1.getD j 0) u).2)) K := h
      have dm := dec_1 z'
      refine ty_take hu (by omega) rfl (fun f _ s1 k1 h1 => ?_) (fun f v s1 k1 z1 => ?_)
      · exact ⟨_, dm, k0.trans k1, rfl, Or.inl ⟨j, _, hg, by omega, rfl, (Int32.sub_eq_add_neg _ _).symm, h1, Nat.lt_of_le_of_lt (tTake_len _ _) hl, h⟩⟩
      · exact ⟨_, dm, k0.trans k1, rfl, Or.inr (h.dn (by rw [tGive_fl]; exact tTakeL_fl _ f) (k0.trans k1) z1)⟩
  · refine ⟨fun _ => zf_X2_resultOf k0.2 (fun r s1 k1 => zf_X3_leave k1.2 (fun s2 k2 => dd s2 (k1.trans k2))), fun z => zf_X2_parameter k0.2 (fun r s1 k1 => zf_X3_take k1.2 (fun v s2 k2 => bad σ k0 dd z s2 (k1.trans k2)))⟩
/-- the call of a function: o its signature -/
def tCallX (o : Option mSigT) (t : tT) : tT := match o with
  | none => tNeed false t
  | some g => tCalls g t
theorem fo_77 {s σ : zS} {t : tT} {y : Nat} {g : mSigT} {S : List mSigT} {K : zS → Prop} {QX : zS → Prop} (hS : sgR σ S) (hg : S[y]? = some g) (k0 : tzR s σ) (hs : tG σ t) (hl : t.1.length < 16000) (h : tOk s (tCalls g t) K) : PX7_followCall_77 (fun y4 y5 τ => ∃ n', zlt n' none ∧ cI107 s S y g K n' y4 y5 τ) (zQv K) QX (nI y) σ := by
  have hy := (List.getElem?_eq_some_iff.1 hg).1
  have h64 := hS.1
  unfold PX7_followCall_77
  refine ⟨fun z => absurd z (nI_pos (by omega)), fun _ => ?_⟩
  refine ty_demand (c := true) hs.1 rfl (fun _ => ?_) (fun z => absurd z (by decide))
  refine rd_parameterCount hS hg ?_
  exact ⟨_, trivial, k0, rfl, Or.inl ⟨g.1.length, t, hg, Nat.le_refl _, rfl, rfl, hs, hl, by rw [List.take_length]; exact h⟩⟩
theorem fo_77b {s σ : zS} {S : List mSigT} {y : Nat} {g : mSigT} {x4 : Int32} {K : zS → Prop} {QX : zS → Prop} (k0 : tzR s σ) (dd : ∀ u, tzR σ u → K u) : PX7_followCall_77 (fun y4 y5 τ => ∃ n', zlt n' none ∧ cI107 s S y g K n' y4 y5 τ) (zQv K) QX x4 σ := by
  unfold PX7_followCall_77
  have e : ∀ w, tzR σ w → ∀ x5 : Int32, ∃ n', zlt n' none ∧ cI107 s S y g K n' x4 x5 w := fun w kw x5 => ⟨_, trivial, k0.trans kw, rfl, Or.inr (fun u ku => dd u (kw.trans ku))⟩
  exact ⟨fun _ => zf_X3_demand k0.2 (fun s1 k1 => zf_X2_parameterCount k1.2 (fun r s2 k2 => e s2 (k1.trans k2) _)), fun _ => zf_X3_demand k0.2 (fun s1 k1 => zf_X2_parameterCount k1.2 (fun r s2 k2 => e s2 (k1.trans k2) _))⟩
theorem tCalls_fl {g : mSigT} {t : tT} (h : t.2.2 = false) : (tCalls g t).2.2 = false := by unfold tCalls; rw [tGive_fl]; exact tTakeL_fl _ h
theorem fo_77n {s σ : zS} {S : List mSigT} {y : Nat} {g : mSigT} {K : zS → Prop} {QX : zS → Prop} (k0 : tzR s σ) (dd : ∀ u, tzR σ u → u.1 5 7 = 0 → K u) : PX7_followCall_77 (fun y4 y5 τ => ∃ n', zlt n' none ∧ cI107 s S y g K n' y4 y5 τ) (zQv K) QX (-1 : Int32) σ := by
  unfold PX7_followCall_77
  refine ⟨fun _ => ?_, fun z => absurd (by decide) z⟩
  refine ty_demand (c := false) k0.2 rfl (fun z => absurd z (by decide)) (fun _ s1 k1 z1 => ?_)
  have d1 : ∀ u, tzR s1 u → K u := fun u ku => dd u (k1.trans ku) (ku.1.2 z1)
  exact zf_X2_parameterCount k1.2 (fun r s2 k2 => ⟨_, trivial, (k0.trans k1).trans k2, rfl, Or.inr (fun u ku => d1 u (k2.trans ku))⟩)
theorem fo_call {s : zS} {t : tT} {k : Nat} {L : List Nat} {S : List mSigT} {K : zS → Prop} {QX : zS → Prop} (hs : tG s t) (hL : fnR s S.length L) (hS : sgR s S) (hk : k < 2 ^ 35) (hl : t.1.length < 16000) (h : tOk s (tCallX ((L[k]?).bind fun y => S[y]?) t) K) : zCT zZC zmX7_followCall [.ref 7, .int (16 : Int32), .long (lN k)] s (zQv K) QX := by
  have k0 : tzR s s := tzR.rf hs.1
  have none1 : ∀ v : Int32, v = -1 → tOk s (tNeed false t) K → PX7_followCall_77 (fun y4 y5 τ => ∃ n', zlt n' none ∧ cI107 s S 0 ([], 0) K n' y4 y5 τ) (zQv K) QX v s := fun v e h => by
    rw [e]
    exact fo_77n k0 (fun u ku z => h.2 (tNeed_f t) u ku z)
  cases hLk : L[k]? with
  | none =>
    rw [hLk] at h
    refine rX7_followCall (cI107 s S 0 ([], 0) K) (fun m x4 x5 σ hI => fo_107 hS m x4 x5 σ hI) ?_
    unfold PX7_followCall_0
    refine ⟨fun _ => ?_, fun z => absurd rfl z⟩
    refine rd_signatureOf hL (by omega) ?_
    rw [hLk]
    exact none1 _ rfl h
  | some y =>
    rw [hLk] at h
    have h : tOk s (tCallX (S[y]?) t) K := h
    cases hg : S[y]? with
    | none =>
      rw [hg] at h
      refine rX7_followCall (cI107 s S 0 ([], 0) K) (fun m x4 x5 σ hI => fo_107 hS m x4 x5 σ hI) ?_
      unfold PX7_followCall_0
      refine ⟨fun _ => ?_, fun z => absurd rfl z⟩
      refine rd_signatureOf hL (by omega) ?_
      rw [hLk]
      refine none1 _ ?_ h
      show sgI S.length y = -1
      have := List.getElem?_eq_none_iff.1 hg
      unfold sgI
      rw [if_neg (by omega)]
    | some g =>
      rw [hg] at h
      have hy := (List.getElem?_eq_some_iff.1 hg).1
      refine rX7_followCall (cI107 s S y g K) (fun m x4 x5 σ hI => fo_107 hS m x4 x5 σ hI) ?_
      unfold PX7_followCall_0
      refine ⟨fun _ => ?_, fun z => absurd rfl z⟩
      refine rd_signatureOf hL (by omega) ?_
      rw [hLk]
      have e : (some y).elim (-1) (sgI S.length) = nI y := by show sgI S.length y = _; unfold sgI; rw [if_pos hy]
      rw [e]
      exact fo_77 hS hg k0 hs hl h
def tCallY (S : List mSigT) (tab : Bool) (k : Nat) (t : tT) : tT := tIf (tTake 0 (tNeed (decide (k < S.length) && tab) t)).2 (tCalls (S.getD k ([], 0)))
theorem fo_calli {s : zS} {t : tT} {k nt : Nat} {S : List mSigT} {K : zS → Prop} {QX : zS → Prop} (hs : tG s t) (hS : sgR s S) (h1 : s.1 18 1 = nI S.length) (ht : s.1 2 10 = nI nt) (ht2 : nt < 2 ^ 30) (hk : k < 2 ^ 35) (hl : t.1.length < 16000) (h : tOk s (tCallY S (decide (0 < nt)) k t) K) : zCT zZC zmX7_followCall [.ref 7, .int (17 : Int32), .long (lN k)] s (zQv K) QX := by
  have k0 : tzR s s := tzR.rf hs.1
  have h64 := hS.1
  have cS : ∀ u, tzR s u → (((u.1 18 (1 : Int32).toNatClampNeg).toInt64) ≤ lN k ↔ S.length ≤ k) := fun u ku => by
    rw [show (1 : Int32).toNatClampNeg = 1 from rfl, (ku.1.1 18 1 (by omega)).1, h1, nI_l (by omega), lN_leB (by omega) (by omega)]
  have c1 : (s.1 2 10) ≤ (0 : Int32) ↔ nt = 0 := by rw [ht, show (0 : Int32) = nI 0 from rfl, nI_leI (by omega) (by decide)]; omega
  have sgQ : ∀ u, tzR s u → sgR u S := fun u ku => ⟨hS.1, fun i g e => by
    obtain ⟨h1, h2, h3, h4⟩ := hS.2 i g e
    have g : ∀ c j, 11 ≤ c → c ≤ 13 → u.1 c j = s.1 c j := fun c j z1 z2 => (ku.1.1 c j (by omega)).1
    exact ⟨h1, by rw [g _ _ (by decide) (by decide)]; exact h2, fun j hj => by rw [g _ _ (by decide) (by decide)]; exact h3 j hj, by rw [g _ _ (by decide) (by decide)]; exact h4⟩⟩
  have fl : ∀ c : Bool, c = false → (tIf (tTake 0 (tNeed c t)).2 (tCalls (S.getD k ([], 0)))).2.2 = false := fun c hc => by
    rw [hc]
    have e : (tTake 0 (tNeed false t)).2.2.2 = false := tTake_fl (tNeed_f t)
    unfold tIf
    rw [if_neg (by rw [e]; decide)]
    exact e
  unfold tCallY at h
  refine rX7_followCall (cI107 s S k (S.getD k ([], 0)) K) (fun m x4 x5 σ hI => fo_107 hS m x4 x5 σ hI) ?_
  unfold PX7_followCall_0
  refine ⟨fun z => absurd z (by decide), fun _ => ⟨fun q => ?_, fun q => ?_⟩⟩
  · refine ty_demand (c := false) hs.1 rfl (fun z => absurd z (by decide)) (fun _ s1 k1 z1 => ?_)
    have dd := h.dn (fl _ (by rw [decide_eq_false (show ¬ 0 < nt by have := c1.1 q; omega), Bool.and_false])) k1 z1
    exact zf_X3_take k1.2 (fun v s2 k2 => ⟨by unfold vp_in; decide, fun _ => fo_77b (k1.trans k2) (fun u ku => dd u (k2.trans ku)), fun _ => fo_77b (k1.trans k2) (fun u ku => dd u (k2.trans ku))⟩)
  · refine ty_demand (c := true) hs.1 rfl (fun _ => ?_) (fun z => absurd z (by decide))
    rw [decide_eq_true (show 0 < nt by have := mt c1.2 q; omega), Bool.and_true] at h
    by_cases qk : k < S.length
    · rw [decide_eq_true qk, tNeed_t] at h
      have eg := List.getElem?_eq_getElem (l := S) (i := k) qk
      have eD : S.getD k ([], 0) = S[k] := getD_some eg
      have hg : S[k]? = some (S.getD k ([], 0)) := by rw [eD]; exact eg
      refine ty_take hs (n := 0) (by decide) rfl (fun f _ s1 k1 hG1 => ?_) (fun f v s1 k1 z1 => ?_)
      · unfold tIf at h
        rw [if_pos f] at h
        refine ⟨by unfold vp_in; decide, fun z => absurd ((cS s1 k1).1 z) (by omega), fun _ => ?_⟩
        rw [lN_i]
        exact fo_77 (sgQ s1 k1) hg k1 hG1 (Nat.lt_of_le_of_lt (tTake_len _ _) hl) h
      · have e : (tIf (tTake 0 t).2 (tCalls (S.getD k ([], 0)))).2.2 = false := by unfold tIf; rw [if_neg (by rw [f]; decide)]; exact f
        have dd := h.dn e k1 z1
        exact ⟨by unfold vp_in; decide, fun _ => fo_77b k1 dd, fun _ => fo_77b k1 dd⟩
    · have e0 : decide (k < S.length) = false := decide_eq_false qk
      have fin : ∀ σ, tzR s σ → ∀ u, tzR σ u → u.1 5 7 = 0 → K u := fun σ k u ku z => h.2 (fl _ e0) u (k.trans ku) z
      refine ty_take hs (n := 0) (by decide) rfl (fun f _ s1 k1 hG1 => ?_) (fun f v s1 k1 z1 => ?_)
      · exact ⟨by unfold vp_in; decide, fun _ => fo_77n k1 (fin s1 k1), fun z => absurd ((cS s1 k1).2 (by omega)) z⟩
      · exact ⟨by unfold vp_in; decide, fun _ => fo_77n k1 (fin s1 k1), fun z => absurd ((cS s1 k1).2 (by omega)) z⟩
