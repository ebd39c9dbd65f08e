/-! check: the answers that are kept -/
def kcnt (A : mA) (w : Nat) : Int32 := if w = 1 then nI (aS A).length else if w = 2 then nI (aI A).length else if w = 3 then nI (aF A).length else if w = 4 then nI (aT A).length else if w = 5 then nI (aM A).length else if w = 6 then nI (aG A).length else if w = 7 then nI (aX A).length else if w = 9 then nI (aE A).length else if w = 11 then nI (aZ A).length else -1
def ownS (A : mA) (j : Nat) : mSigT := (aS A).getD ((aF A).getD j (0, 0)).2 ([], 0)
def kR (s : zS) (o : Option mA) : Prop := match o with
  | none => s.1 9 6 = 0 ∧ s.1 9 7 = 0
  | some A => s.1 9 7 = 1 ∧ s.1 9 6 = nI (aF A).length ∧ (aF A).length ≤ 64 ∧ (aD A).length = (aF A).length ∧ (∀ w, w < 13 → s.1 33 w = kcnt A w) ∧ (∀ j x, (aD A)[j]? = some x → s.1 34 j = nI (allC ((aD A).take j)).length ∧ s.1 35 j = nI (cds x.2.2.2.2).length ∧ s.1 36 j = nI (bdL (ownS A j) x).length) ∧ (allC (aD A)).length ≤ 16000 ∧ ∀ i x, (allC (aD A))[i]? = some x → s.1 37 i = nI x
/-- the class's object between two calls -/
def cZ (σ : zS) (S : qS) : Prop := cT σ S.1 ∧ (∀ x ∈ S.1, x < 256) ∧ σ.1 0 5 = nI S.2.1 ∧ S.2.1 ≤ 65536 ∧ sV0 σ ∧ cBy σ ∧ kR σ S.2.2.2
theorem kR_q {σ s : zS} {o : Option mA} (h : ∀ c i, (c = 9 ∨ (33 ≤ c ∧ c ≤ 37)) → s.1 c i = σ.1 c i) (r : kR σ o) : kR s o := by
  cases o with
  | none => exact ⟨by rw [h 9 6 (by omega)]; exact r.1, by rw [h 9 7 (by omega)]; exact r.2⟩
  | some A =>
    obtain ⟨r1, r2, r3, r4, r5, r6, r7, r8⟩ := r
    exact ⟨by rw [h 9 7 (by omega)]; exact r1, by rw [h 9 6 (by omega)]; exact r2, r3, r4, fun w hw => by rw [h 33 w (by omega)]; exact r5 w hw, fun j x hx => by rw [h 34 j (by omega), h 35 j (by omega), h 36 j (by omega)]; exact r6 j x hx, r7, fun i x hx => by rw [h 37 i (by omega)]; exact r8 i x hx⟩
theorem sV0_q {σ s : zS} (h : ∀ c i, (c = 7 ∨ c = 5 ∨ c = 32) → s.1 c i = σ.1 c i) (r : sV0 σ) : sV0 s := by
  obtain ⟨v1, v2, v3, v4⟩ := r
  exact ⟨by rw [h 7 3 (by omega)]; exact v1, by rw [h 5 7 (by omega)]; exact v2, by rw [h 5 5 (by omega)]; exact v3, fun i => by rw [h 32 i (by omega)]; exact v4 i⟩
theorem rd_firstWr {s : zS} {K : Int32 → zS → Prop} {QX : zS → Prop} (h : ∀ r, (wr s → 0 ≤ r) → (¬ wr s → r = -1) → K r s) : zCT zZC zmX2_firstWrong [.ref 2] s (zQi K) QX := by
  refine rX2_firstWrong (fun m x1 σ => ∃ j, m + j = 16 ∧ x1 = nI j ∧ σ = s ∧ ∀ i, i < j → s.1 17 i < 0) ?_ ?_
  · rintro m x1 σ ⟨j, hm, rfl, rfl, hj⟩
    unfold PX2_firstWrong_2
    have c1 : nI 16 ≤ nI j ↔ 16 ≤ j := nI_leI (by decide) (by omega)
    rw [c1]
    refine ⟨fun q => h _ (fun ⟨k, hk, hn⟩ => absurd (hj k (by omega)) hn) (fun _ => rfl), fun q => ⟨vp_in_nI (by omega) (by decide), ?_⟩⟩
    rw [nI_clamp (by omega)]
    refine ⟨fun q2 => ⟨m - 1, by show m - 1 < m; omega, j + 1, by omega, nI_1 j, rfl, fun i hi => ?_⟩, fun q2 => ⟨vp_in_nI (by omega) (by decide), h _ (fun _ => ?_) (fun z => absurd ⟨j, by omega, q2⟩ z)⟩⟩
    · by_cases q3 : i = j
      · rw [q3]; exact q2
      · exact hj i (by omega)
    · rw [Int32.lt_iff_toInt_lt] at q2
      rw [Int32.le_iff_toInt_le]
      omega
  · unfold PX2_firstWrong_0
    exact ⟨16, trivial, 0, rfl, rfl, rfl, fun i hi => absurd hi (Nat.not_lt_zero _)⟩
theorem rd_fillCounts {s : zS} {A : mA} {K : zS → Prop} {QX : zS → Prop} (hI : itM s A) (h : ∀ s', (∀ c i, ¬ c = 28 → ¬ (c = 8 ∧ i = 6) → s'.1 c i = s.1 c i) → (∀ w, w < 13 → s'.1 28 w = kcnt A w) → s'.1 8 6 = nI (aF A).length → K s') : zCT zZC zmX0_fillCounts [.ref 8, .ref 2] s (zQv K) QX := by
  refine rX0_fillCounts (fun m x2 σ => ∃ j, m + j = 13 ∧ x2 = nI j ∧ (∀ c i, ¬ c = 28 → σ.1 c i = s.1 c i) ∧ ∀ w, w < j → σ.1 28 w = kcnt A w) ?_ ?_
  · rintro m x2 σ ⟨j, hm, rfl, g, hk⟩
    unfold PX0_fillCounts_2
    have c13 : nI 13 ≤ nI j ↔ 13 ≤ j := nI_leI (by decide) (by omega)
    have c1 : nI j < (1 : Int32) ↔ j < 1 := nI_ltI (b := 1) (by omega) (by decide)
    have c11 : (11 : Int32) < nI j ↔ 11 < j := nI_ltI (a := 11) (by decide) (by omega)
    have c8 : nI j = (8 : Int32) ↔ j = 8 := nI_eq (b := 8) (by omega) (by decide)
    have c10 : nI j = (10 : Int32) ↔ j = 10 := nI_eq (b := 10) (by omega) (by decide)
    rw [c13, c1, c11, c8, c10, nI_clamp (by omega)]
    have v3 : vp_in (3 : Int32) 13 := vp_in_nI (n := 3) (by decide) (by decide)
    have next : ∀ (v : Int32) (s' : zS), s' = zsI σ 28 j v → j < 13 → v = kcnt A j → ∃ n', zlt n' (some m) ∧ ∃ j', n' + j' = 13 ∧ nI j + 1 = nI j' ∧ (∀ c i, ¬ c = 28 → s'.1 c i = s.1 c i) ∧ ∀ w, w < j' → s'.1 28 w = kcnt A w := fun v s' e hj hv => by
      refine ⟨m - 1, by show m - 1 < m; omega, j + 1, by omega, nI_1 j, fun c i hc => by rw [e, zI1, if_neg (fun z => hc z.1)]; exact g c i hc, fun w hw => ?_⟩
      rw [e, zI1]
      by_cases q : w = j
      · rw [if_pos ⟨rfl, q⟩, q]; exact hv
      · rw [if_neg (fun z => q z.2)]; exact hk w (by omega)
    have item : 1 ≤ j → j ≤ 11 → ¬ j = 8 → ¬ j = 10 → σ.1 18 j = kcnt A j := fun a1 a2 a3 a4 => by
      rw [g 18 j (by decide), hI j a1 (by omega)]
      have q : j = 1 ∨ j = 2 ∨ j = 3 ∨ j = 4 ∨ j = 5 ∨ j = 6 ∨ j = 7 ∨ j = 9 ∨ j = 11 := by omega
      rcases q with rfl | rfl | rfl | rfl | rfl | rfl | rfl | rfl | rfl <;> rfl
    have off : ∀ (q : j = 0 ∨ j = 8 ∨ j = 10 ∨ j = 12), (-1 : Int32) = kcnt A j := fun q => by rcases q with rfl | rfl | rfl | rfl <;> rfl
    refine ⟨fun q => ?_, fun q => ?_⟩
    · first
      | refine ⟨v3, fun s1 e1 => h s1 (fun c i a1 a2 => by rw [e1, zI1, if_neg (fun z => a2 ⟨z.1, z.2⟩)]; exact g c i a1) (fun w hw => by rw [e1, zI1, if_neg (by omega)]; exact hk w (by omega)) ?_⟩
        rw [e1, zI1, if_pos ⟨rfl, rfl⟩, show (3 : Int32).toNatClampNeg = 3 from rfl, g 18 3 (by decide)]
        exact hI 3 (by decide) (by decide)
    · have vj : vp_in (nI j) 13 := vp_in_nI (by omega) (by decide)
      refine ⟨fun q1 => ⟨fun _ => ⟨vj, fun s' e => next _ s' e (by omega) (off (by omega))⟩, fun z => absurd rfl z⟩, fun q1 => ⟨fun q2 => ⟨fun _ => ⟨vj, fun s' e => next _ s' e (by omega) (off (by omega))⟩, fun z => absurd rfl z⟩, fun q2 => ⟨fun q3 => ⟨fun _ => ⟨vj, fun s' e => next _ s' e (by omega) (off (by omega))⟩, fun z => absurd rfl z⟩, fun q3 => ⟨fun q4 => ⟨fun _ => ⟨vj, fun s' e => next _ s' e (by omega) (off (by omega))⟩, fun z => absurd rfl z⟩, fun q4 => ⟨fun z => absurd z (by decide), fun _ => ⟨vj, vj, fun s' e => next _ s' e (by omega) (item (by omega) (by omega) q3 q4)⟩⟩⟩⟩⟩⟩
  · unfold PX0_fillCounts_0
    exact ⟨13, trivial, 0, rfl, rfl, fun _ _ _ => rfl, fun w hw => absurd hw (Nat.not_lt_zero _)⟩
