/-! signatures taken apart, the reference's locals -/
def sigOk (s : mSigT) : Prop := s.1.length ≤ 16 ∧ (∀ x ∈ s.1, x ≤ 1) ∧ s.2 ≤ 2
theorem sigC_lt {s : mSigT} (h : sigOk s) : sigC s < 2 ^ 23 ∧ s.1.length + 32 * psV s.1 < 2 ^ 21 := by
  have h1 := psV_lt h.2.1
  have h2 : 2 ^ s.1.length ≤ 2 ^ 16 := Nat.pow_le_pow_right (by decide) h.1
  have h3 := h.1
  have h4 := h.2.2
  unfold sigC
  omega
theorem psV_bit : ∀ (l : List Nat), (∀ x ∈ l, x ≤ 1) → ∀ (R k : Nat), k < l.length → (psV l + R * 2 ^ l.length) / 2 ^ k % 2 = l.getD k 0 := by
  intro l
  induction l with
  | nil => intro _ R k hk; exact absurd hk (Nat.not_lt_zero _)
  | cons x r ih =>
    intro hl R k hk
    have hx := hl x List.mem_cons_self
    have e : psV (x :: r) + R * 2 ^ (x :: r).length = x + 2 * (psV r + R * 2 ^ r.length) := by
      simp only [psV, List.length_cons, Nat.pow_succ]
      have : R * (2 ^ r.length * 2) = 2 * (R * 2 ^ r.length) := by rw [← Nat.mul_assoc, Nat.mul_comm]
      omega
    rw [e]
    cases k with
    | zero => simp; omega
    | succ k =>
      simp only [List.length_cons] at hk
      have h2 : (x + 2 * (psV r + R * 2 ^ r.length)) / 2 ^ (k + 1) = (psV r + R * 2 ^ r.length) / 2 ^ k := by
        rw [Nat.pow_succ, Nat.mul_comm (2 ^ k) 2, ← Nat.div_div_eq_div_mul]
        congr 1
        omega
      rw [h2, ih (fun y hy => hl y (List.mem_cons_of_mem _ hy)) R k (by omega), List.getD_cons_succ]
theorem sig_n {s : mSigT} (h : sigOk s) : nI (sigC s) &&& (31 : Int32) = nI s.1.length := by
  rw [pk_andN (by have := (sigC_lt h).1; omega) 5 (by decide)]
  congr 1
  have := h.1
  unfold sigC
  omega
theorem sig_r {s : mSigT} (h : sigOk s) : nI (sigC s) >>> ((21 : Int32) &&& 31) = nI s.2 := by
  show nI (sigC s) >>> (nI 21 &&& (31 : Int32)) = nI s.2
  rw [pk_shrN (by have := (sigC_lt h).1; omega) _ 21 (shI_s 21 (by decide))]
  congr 1
  have := (sigC_lt h).2
  unfold sigC
  omega
theorem sig_p {s : mSigT} (h : sigOk s) {k : Nat} (hk : k < s.1.length) : (nI (sigC s) >>> (((5 : Int32) + nI k) &&& 31)) &&& (1 : Int32) = nI (s.1.getD k 0) := by
  have h16 := h.1
  have e1 : (5 : Int32) + nI k = nI (5 + k) := nI_add 5 k
  rw [e1, pk_shrN (by have := (sigC_lt h).1; omega) _ (5 + k) (shI_s (5 + k) (by omega)), pk_andN (by have := (sigC_lt h).1; have : sigC s / 2 ^ (5 + k) ≤ sigC s := Nat.div_le_self _ _; omega) 1 (by decide)]
  congr 1
  have e2 : sigC s / 2 ^ (5 + k) = (psV s.1 + (s.2 * 2 ^ (16 - s.1.length)) * 2 ^ s.1.length) / 2 ^ k := by
    rw [Nat.pow_add, ← Nat.div_div_eq_div_mul]
    congr 1
    rw [Nat.mul_assoc, ← Nat.pow_add, show 16 - s.1.length + s.1.length = 16 by omega]
    unfold sigC
    omega
  rw [e2]
  exact psV_bit s.1 h.2.1 _ k hk
theorem sp_parameters {s : mSigT} {σ : zS} {K : Int32 → zS → Prop} {QX : zS → Prop} (hs : sigOk s) (h : K (nI s.1.length) σ) : zCT zZM zmX10_parameters [.int (nI (sigC s))] σ (zQi K) QX := by
  refine rX10_parameters ?_
  unfold PX10_parameters_0
  rw [sig_n hs]
  exact h
theorem sp_parameter {s : mSigT} {k : Nat} {σ : zS} {K : Int32 → zS → Prop} {QX : zS → Prop} (hs : sigOk s) (hk : k < s.1.length) (h : K (nI (s.1.getD k 0)) σ) : zCT zZM zmX10_parameter [.int (nI (sigC s)), .int (nI k)] σ (zQi K) QX := by
  refine rX10_parameter ?_
  unfold PX10_parameter_0
  rw [sig_p hs hk]
  exact h
theorem sp_resultOf {s : mSigT} {σ : zS} {K : Int32 → zS → Prop} {QX : zS → Prop} (hs : sigOk s) (h : K (nI s.2) σ) : zCT zZM zmX10_resultOf [.int (nI (sigC s))] σ (zQi K) QX := by
  refine rX10_resultOf ?_
  unfold PX10_resultOf_0
  rw [sig_r hs]
  exact h
def flat (l : List (Nat × Nat)) : List Nat := l.flatMap fun g => List.replicate g.1 g.2
theorem flat_app (l : List (Nat × Nat)) (n t : Nat) : flat (l ++ [(n, t)]) = flat l ++ List.replicate n t := by
  unfold flat
  simp [List.flatMap_append]
theorem mGrpS {b : Nat → Nat} {e n s : Nat} {l : List (Nat × Nat)} {a : Nat} {r : List (Nat × Nat) × Nat} (h : mGrp b e (n + 1) s l a = .ok r) : ∃ u t, mU b e a = .ok u ∧ mType b e u.2 = .ok t ∧ s + u.1 ≤ 64 ∧ mGrp b e n (s + u.1) (l ++ [(u.1, t.1)]) t.2 = .ok r := by
  have h : ((mU b e a).bind fun u => (mType b e u.2).bind fun t => if 64 < s + u.1 then .error (4, a) else mGrp b e n (s + u.1) (l ++ [(u.1, t.1)]) t.2) = .ok r := h
  cases hu : mU b e a with
  | error q => rw [hu] at h; cases h
  | ok u =>
    rw [hu] at h
    have h : ((mType b e u.2).bind fun t => if 64 < s + u.1 then .error (4, a) else mGrp b e n (s + u.1) (l ++ [(u.1, t.1)]) t.2) = .ok r := h
    cases ht : mType b e u.2 with
    | error q => rw [ht] at h; cases h
    | ok t =>
      rw [ht] at h
      have h : (if 64 < s + u.1 then .error (4, a) else mGrp b e n (s + u.1) (l ++ [(u.1, t.1)]) t.2) = .ok r := h
      by_cases q : 64 < s + u.1
      · rw [if_pos q] at h; cases h
      · rw [if_neg q] at h
        exact ⟨u, t, rfl, ht, by omega, h⟩
/-- the locals that a state holds -/
def lR (s : zS) (L : List Nat) : Prop := s.1 0 30 = nI L.length ∧ L.length ≤ 80 ∧ ∀ i, i < L.length → s.1 13 i = nI (L.getD i 0)
def lK (σ s : zS) : Prop := ∀ c i, ¬ c = 13 → ¬ (c = 0 ∧ (i = 12 ∨ i = 30)) → s.1 c i = σ.1 c i ∧ s.2 c i = σ.2 c i
theorem lK.at {σ s : zS} (h : lK σ s) (x : Nat) : lK σ (mAt s x) := fun c i h1 h2 => ⟨by rw [mAt, zI1, if_neg (by omega)]; exact (h c i h1 h2).1, (h c i h1 h2).2⟩
theorem lK.i {σ s : zS} (h : lK σ s) {c j : Nat} (x : Int32) (hc : c = 13 ∨ (c = 0 ∧ j = 30)) : lK σ (zsI s c j x) := fun a i h1 h2 => ⟨by rw [zI1, if_neg (by omega)]; exact (h a i h1 h2).1, (h a i h1 h2).2⟩
theorem lR.at {s : zS} {L : List Nat} (h : lR s L) (x : Nat) : lR (mAt s x) L := ⟨by rw [mAt, zI1, if_neg (by omega)]; exact h.1, h.2.1, fun i hi => by rw [mAt, zI1, if_neg (by omega)]; exact h.2.2 i hi⟩
theorem lR.push {s s1 s2 : zS} {L : List Nat} {t : Nat} (h : lR s L) (hl : L.length < 80) (e1 : s1 = zsI s 13 L.length (nI t)) (e2 : s2 = zsI s1 0 30 ((s1.1 0 30) + (1 : Int32))) : lR s2 (L ++ [t]) := by
  have g : s1.1 0 30 = nI L.length := by rw [e1, zI1, if_neg (by omega)]; exact h.1
  rw [g, nI_1] at e2
  refine ⟨by rw [e2, zI1, if_pos ⟨rfl, rfl⟩, len_app], by rw [len_app]; omega, fun i hi => ?_⟩
  rw [len_app] at hi
  rw [e2, zI1, if_neg (by omega), e1, zI1]
  by_cases q : i = L.length
  · rw [if_pos ⟨rfl, q⟩, q]; simp
  · rw [if_neg (by omega), h.2.2 i (by omega)]
    simp [List.getD_eq_getElem?_getD, List.getElem?_append_left (show i < L.length by omega)]
/-- as mSt, wherever the reader stands -/
def mSu (τ σ : zS) (B : Nat) (b : Nat → Nat) (e : Nat) : Prop :=
  mKeep τ σ ∧ (∀ j, j < 16000 → b j < 256 ∧ σ.1 4 (B + j) = sb_b (b j)) ∧ σ.1 0 13 = nI (B + e) ∧ e ≤ 16000 ∧ B ≤ 16000
theorem mSt.u {τ σ : zS} {B : Nat} {b : Nat → Nat} {e a : Nat} (h : mSt τ σ B b e a) : mSu τ σ B b e := ⟨h.1, h.2.1, h.2.2.2.1, h.2.2.2.2.2.1, h.2.2.2.2.2.2⟩
theorem mSu.at {τ σ : zS} {B : Nat} {b : Nat → Nat} {e a : Nat} (h : mSu τ σ B b e) (ha : a ≤ e) : mSt τ (mAt σ (B + a)) B b e a :=
  ⟨h.1.i _ (by unfold kpd; omega), fun j hj => by rw [mAt, zI1, if_neg (by omega)]; exact h.2.1 j hj, by rw [mAt, zI1, if_pos ⟨rfl, rfl⟩], by rw [mAt, zI1, if_neg (by omega)]; exact h.2.2.1, ha, h.2.2.2.1, h.2.2.2.2⟩
theorem mSu.i {τ σ : zS} {B : Nat} {b : Nat → Nat} {e : Nat} (h : mSu τ σ B b e) {c j : Nat} (x : Int32) (hk : ¬ kpd c j) (h2 : ¬ (c = 0 ∧ j = 13)) : mSu τ (zsI σ c j x) B b e :=
  ⟨h.1.i _ hk, fun i hi => by rw [zI1, if_neg (fun q => hk (by rw [← q.1]; unfold kpd; omega))]; exact h.2.1 i hi, by rw [zI1, if_neg (by omega)]; exact h.2.2.1, h.2.2.2⟩
theorem mSu.end {τ σ : zS} {B : Nat} {b : Nat → Nat} {e : Nat} (h : mSu τ σ B b e) {e1 : Nat} (h1 : e1 ≤ 16000) : mSu τ (zsI σ 0 13 (nI (B + e1))) B b e1 :=
  ⟨h.1.i _ (by unfold kpd; omega), fun i hi => by rw [zI1, if_neg (by omega)]; exact h.2.1 i hi, by rw [zI1, if_pos ⟨rfl, rfl⟩], h1, h.2.2.2.2⟩
theorem sp_readLocals {τ σ : zS} {B : Nat} {b : Nat → Nat} {e z : Nat} {s : mSigT} {n G : Nat × Nat} {gs : List (Nat × Nat)} {K : zS → Prop} {QX : zS → Prop} (hs : mSu τ σ B b e) (hsig : sigOk s) (hze : z ≤ e) (hn : mU b e z = .ok n) (hg : mGrp b e n.1 0 [] n.2 = .ok (gs, G.2))
    (h : ∀ σ', mSt τ σ' B b e G.2 → lK σ σ' → lR σ' (s.1 ++ flat gs) → K σ') : zCT zZM zmX10_readLocals [.ref 0, .int (nI (sigC s)), .int (nI (B + z))] σ (zQv K) QX := by
  have hlen := hsig.1
  have u1 := mU_in hn hze
  have u2 := mU_lt hn
  refine rX10_readLocals
    (fun m x1 x2 x3 u => ∃ j, m + j = s.1.length + 2 ^ 50 ∧ j ≤ s.1.length ∧ x1 = nI (sigC s) ∧ x2 = nI (B + z) ∧ x3 = nI j ∧ mSu τ u B b e ∧ lK σ u ∧ lR u (s.1.take j))
    (fun m x3 x5 u => ∃ R N j sum p l, m = R * 100 ∧ R + j = N ∧ N < 2 ^ 35 ∧ x3 = lN N ∧ x5 = lN j ∧ sum ≤ 64 ∧ (flat l).length = sum ∧ mGrp b e R sum l p = .ok (gs, G.2) ∧ mSt τ u B b e p ∧ lK σ u ∧ lR u (s.1 ++ flat l))
    (fun m x3 x5 x7 x9 x10 u => ∃ R N j sum p l c t i, m = R * 100 + (c - i) + 1 ∧ R + 1 + j = N ∧ N < 2 ^ 35 ∧ x3 = lN N ∧ x5 = lN j ∧ x7 = lN c ∧ x9 = nI t ∧ x10 = lN i ∧ i ≤ c ∧ sum + c ≤ 64 ∧ (flat l).length = sum ∧ mGrp b e R (sum + c) (l ++ [(c, t)]) p = .ok (gs, G.2) ∧ mSt τ u B b e p ∧ lK σ u ∧ lR u (s.1 ++ flat l ++ List.replicate i t)) ?_ ?_ ?_ ?_
  · rintro m x1 x2 x3 u ⟨j, hm, hj, rfl, rfl, rfl, hu, hk, hl⟩
    unfold PX10_readLocals_7
    refine sp_parameters hsig ?_
    have c1 : nI s.1.length ≤ nI j ↔ s.1.length ≤ j := nI_leI (by omega) (by omega)
    rw [c1]
    refine ⟨fun q s3 e3 => ?_, fun q => ?_⟩
    · have hj2 : j = s.1.length := by omega
      have h3 : mSt τ s3 B b e z := by rw [e3]; exact hu.at hze
      have k3 : lK σ s3 := by rw [e3]; exact hk.at _
      have l3 : lR s3 s.1 := by rw [e3]; rw [hj2, List.take_length] at hl; exact hl.at _
      refine sp_u h3 ?_
      rw [hn]
      exact ⟨n.1 * 100, by show n.1 * 100 < m; omega, n.1, n.1, 0, 0, n.2, [], rfl, rfl, u2, rfl, rfl, by decide, rfl, hg, h3.at u1.2, k3.at _, by simpa [flat] using l3.at _⟩
    · refine sp_parameter hsig (by omega) ?_
      have hlt : (s.1.take j).length = j := by rw [List.length_take]; omega
      have g30 : u.1 0 30 = nI j := by rw [hl.1, hlt]
      rw [g30, nI_clamp (by omega)]
      refine ⟨vp_in_nI (by omega) (by decide), fun s8 e8 s9 e9 => ⟨m - 1, by show m - 1 < m; omega, j + 1, by omega, by omega, rfl, rfl, nI_1 j, ?_, ?_, ?_⟩⟩
      · rw [e9, e8]; exact (hu.i _ (by unfold kpd; omega) (by omega)).i _ (by unfold kpd; omega) (by omega)
      · rw [e9, e8]; exact (hk.i _ (Or.inl rfl)).i _ (Or.inr ⟨rfl, rfl⟩)
      · have ht : s.1.take (j + 1) = s.1.take j ++ [s.1.getD j 0] := by
          rw [List.take_add_one, List.getD_eq_getElem?_getD, List.getElem?_eq_getElem (show j < s.1.length by omega)]; rfl
        rw [ht]
        exact hl.push (by omega) (by rw [hlt]; exact e8) e9
  · rintro m x3 x5 u ⟨R, N, j, sum, p, l, rfl, hR, hN, rfl, rfl, hsum, hfl, hgr, hu, hk, hl⟩
    unfold PX10_readLocals_58
    have c1 : lN N ≤ lN j ↔ N ≤ j := lN_leB (by omega) (by omega)
    rw [c1]
    refine ⟨fun q => ?_, fun q => ?_⟩
    · have : R = 0 := by omega
      subst this
      have hgr : (Except.ok (l, p) : mE _) = .ok (gs, G.2) := hgr
      cases hgr
      exact h u hu hk hl
    · obtain ⟨R', rfl⟩ : ∃ y, R = y + 1 := ⟨R - 1, by omega⟩
      obtain ⟨v, t, hv, ht, hs64, hgr'⟩ := mGrpS hgr
      have v1 := mU_in hv hu.2.2.2.2.1
      obtain ⟨t1, t2, t3, t4⟩ := mType_in ht
      refine sp_u hu ?_
      rw [hv]
      refine sp_type (hu.at v1.2) ?_
      rw [ht]
      exact ⟨R' * 100 + (v.1 - 0) + 1, by show R' * 100 + (v.1 - 0) + 1 < (R' + 1) * 100; omega, R', N, j, sum, t.2, l, v.1, t.1, 0, rfl, by omega, hN, rfl, rfl, rfl, rfl, rfl, Nat.zero_le _, hs64, hfl, hgr', (hu.at v1.2).at (by omega), (hk.at _).at _, by simpa using (hl.at _).at _⟩
  · rintro m x3 x5 x7 x9 x10 u ⟨R, N, j, sum, p, l, c, t, i, rfl, hR, hN, rfl, rfl, rfl, rfl, rfl, hi, hs64, hfl, hgr, hu, hk, hl⟩
    unfold PX10_readLocals_80
    have c1 : lN c ≤ lN i ↔ c ≤ i := lN_leB (by omega) (by omega)
    rw [c1]
    refine ⟨fun q => ?_, fun q => ?_⟩
    · have hic : i = c := by omega
      subst hic
      exact ⟨R * 100, by show R * 100 < R * 100 + (i - i) + 1; omega, R, N, j + 1, sum + i, p, l ++ [(i, t)], rfl, by omega, hN, rfl, by rw [show (1 : Int64) = lN 1 from rfl, lN_add], hs64, by rw [flat_app, List.length_append, List.length_replicate, hfl], hgr, hu, hk, by rw [flat_app, ← List.append_assoc]; exact hl⟩
    · have hL : (s.1 ++ flat l ++ List.replicate i t).length = s.1.length + sum + i := by simp [hfl]; omega
      rw [hl.1, hL, nI_clamp (by omega)]
      refine ⟨vp_in_nI (by omega) (by decide), fun s1 e1 s2 e2 => ⟨R * 100 + (c - (i + 1)) + 1, by show R * 100 + (c - (i + 1)) + 1 < R * 100 + (c - i) + 1; omega, R, N, j, sum, p, l, c, t, i + 1, rfl, hR, hN, rfl, rfl, rfl, rfl, by rw [show (1 : Int64) = lN 1 from rfl, lN_add], by omega, hs64, hfl, hgr, ?_, ?_, ?_⟩⟩
      · rw [e2, e1]; exact (hu.i _ (by unfold kpd; omega) (by omega)).i _ (by unfold kpd; omega) (by omega)
      · rw [e2, e1]; exact (hk.i _ (Or.inl rfl)).i _ (Or.inr ⟨rfl, rfl⟩)
      · rw [List.replicate_succ', ← List.append_assoc]
        exact hl.push (by omega) (by rw [hL]; exact e1) e2
  · unfold PX10_readLocals_0
    intro s1 e1
    refine ⟨s.1.length + 2 ^ 50, trivial, 0, rfl, Nat.zero_le _, rfl, rfl, rfl, ?_, ?_, ?_⟩
    · rw [e1]; exact hs.i _ (by unfold kpd; omega) (by omega)
    · rw [e1]; exact lK.i (fun _ _ _ _ => ⟨rfl, rfl⟩) _ (Or.inr ⟨rfl, rfl⟩)
    · rw [e1]; exact ⟨by rw [zI1, if_pos ⟨rfl, rfl⟩]; rfl, by simp, fun i hi => absurd hi (by simp)⟩
