/-! check, whole -/
theorem mW_self {α : Type} {x : mE α} : mW x (fun r => x = .ok r) (fun k p => x = .error (k, p)) := by cases x <;> rfl
theorem mS1c_in {b : Nat → Nat} {E n a : Nat} {A : mA} {r : (mA × Nat) × Nat} (ha : a ≤ E) (hn : n ≤ 12) (h : mS1c b E n A a = .ok r) : a < r.2 ∧ r.2 ≤ E ∧ r.1.2 ≤ 12 := by
  unfold mS1c at h
  cases hk : mSn b E n a with
  | error q => rw [hk] at h; cases h
  | ok k =>
    rw [hk] at h
    have hk1 : a < k.2 ∧ k.2 ≤ E ∧ k.1 ≤ 12 := by
      unfold mSn at hk
      cases hw : mOw b E 0 12 a with
      | error q => rw [hw] at hk; cases hk
      | ok w =>
        rw [hw] at hk
        obtain ⟨w1, w2, w3, w4⟩ := mOw_in hw
        have hk : (if ¬ w.1 = 0 ∧ mOrd w.1 ≤ n then .error (1, a) else .ok w : mE (Nat × Nat)) = .ok k := hk
        by_cases q : ¬ w.1 = 0 ∧ mOrd w.1 ≤ n
        · rw [if_pos q] at hk; cases hk
        · rw [if_neg q] at hk
          cases hk
          have e2 : k.2 = a + 1 := by rw [w2]
          omega
    have h : (mLen b E k.2).bind (fun z => (mSB b (z.2 + z.1) k.1 A z.2).bind fun r => mSE (z.2 + z.1) k.1 (if k.1 = 0 then n else mOrd k.1) r.1 r.2) = .ok r := h
    cases hz : mLen b E k.2 with
    | error q => rw [hz] at h; cases h
    | ok z =>
      rw [hz] at h
      have hz2 : k.2 < z.2 ∧ z.2 + z.1 ≤ E := by
        unfold mLen at hz
        cases hu : mU b E k.2 with
        | error q => rw [hu] at hz; cases hz
        | ok u =>
          rw [hu] at hz
          have u1 := mU_in hu hk1.2.1
          have hz : (if E - u.2 < u.1 then .error (1, k.2) else .ok u : mE (Nat × Nat)) = .ok z := hz
          by_cases q : E - u.2 < u.1
          · rw [if_pos q] at hz; cases hz
          · rw [if_neg q] at hz; cases hz; omega
      have h : (mSB b (z.2 + z.1) k.1 A z.2).bind (fun r => mSE (z.2 + z.1) k.1 (if k.1 = 0 then n else mOrd k.1) r.1 r.2) = .ok r := h
      cases hs : mSB b (z.2 + z.1) k.1 A z.2 with
      | error q => rw [hs] at h; cases h
      | ok y =>
        rw [hs] at h
        have h : ((if y.2 < z.2 + z.1 then .error (1, y.2) else .ok y.2 : mE Nat).bind fun _ => (if mNoFit y.1 k.1 = true then .error (1, z.2 + z.1) else .ok () : mE Unit).bind fun _ => .ok ((y.1, if k.1 = 0 then n else mOrd k.1), z.2 + z.1)) = .ok r := h
        by_cases q : y.2 < z.2 + z.1
        · rw [if_pos q] at h; cases h
        rw [if_neg q] at h
        have h : ((if mNoFit y.1 k.1 = true then .error (1, z.2 + z.1) else .ok () : mE Unit).bind fun _ => .ok ((y.1, if k.1 = 0 then n else mOrd k.1), z.2 + z.1)) = .ok r := h
        by_cases q2 : mNoFit y.1 k.1 = true
        · rw [if_pos q2] at h; cases h
        rw [if_neg q2] at h
        cases h
        refine ⟨by show a < z.2 + z.1; omega, hz2.2, ?_⟩
        show (if k.1 = 0 then n else mOrd k.1) ≤ 12
        split
        · exact hn
        · exact (zt_order k.1 (by omega)).2
theorem mMeans_2 {b : Nat → Nat} {E : Nat} {A : mA} {q : Nat × Nat} (h : mMeans b E A = .error q) : q.1 = 2 := by
  let two (x : mE Unit) : Prop := ∀ q, x = .error q → q.1 = 2
  have tb : ∀ {x y : mE Unit}, two x → two y → two (x.bind fun _ => y) := fun {x y} hx hy q hq => by
    cases x with
    | error z => exact hx q hq
    | ok u => exact hy q hq
  have tm : ∀ (c : Prop) [Decidable c] (p : Nat), two (mMust c p) := fun c _ p q hq => by
    unfold mMust at hq
    by_cases z : c
    · rw [if_pos z] at hq; cases hq
    · rw [if_neg z] at hq; cases hq; rfl
  have to : two (.ok ()) := fun q hq => by cases hq
  have ta : ∀ {f : Nat → mE Unit} (n i : Nat), (∀ i, two (f i)) → two (mAll f n i) := fun {f} n => by
    induction n with
    | zero => intro i _; exact to
    | succ n ih => intro i hf; exact tb (hf i) (ih (i + 1) hf)
  have ti : ∀ {c : Prop} [Decidable c] {x y : mE Unit}, two x → two y → two (if c then x else y) := fun {c} _ {x y} hx hy => by
    by_cases z : c
    · rw [if_pos z]; exact hx
    · rw [if_neg z]; exact hy
  have tu : ∀ (X : List mExT) (x : mExT) n i, two (mUniq b X x n i) := fun X x n => by
    induction n with
    | zero => intro i; exact to
    | succ n ih => intro i; exact tb (tm _ _) (ih (i + 1))
  have tf : ∀ l, two (mFns A l) := fun l => by
    induction l with
    | nil => exact to
    | cons x r ih => exact tb (tm _ _) ih
  have tr : ∀ (L : List Nat) (g : mSigT) l t, two (tRun A L g l t) := fun L g l => by
    induction l with
    | nil => intro t; exact to
    | cons x r ih => intro t; exact tb (tm _ _) (ih _)
  have ts : two (mSta A) := by
    unfold mSta
    cases aB A with
    | none => exact to
    | some x => exact tb (tm _ _) (tm _ _)
  have all : two (mMeans b E A) := by
    unfold mMeans mZ1 mZ2 mZ3 mZ4 mZ5 mZ6 mZ7 mZ8 mZ9
    refine tb (ta _ _ (fun i => ?_)) (tb (ta _ _ (fun i => tm _ _)) (tb ?_ (tb ?_ (tb (ta _ _ (fun i => tm _ _)) (tb (ta _ _ (fun i => tb (tm _ _) (tu _ _ _ _))) (tb ts (tb (ta _ _ (fun i => ?_)) (tb (ta _ _ (fun i => ?_)) (ta _ _ (fun i => tr _ _ _ _))))))))))
    · unfold mIm; exact ti (tm _ _) (ti (tm _ _) to)
    · unfold mOne; exact tb (tm _ _) (ti to (tb (tm _ _) (tb (tm _ _) (tm _ _))))
    · unfold mOne; exact tb (tm _ _) (ti to (tb (tm _ _) (tb (tm _ _) (tm _ _))))
    · unfold mElem mEl0; exact tb (ti (tb (tm _ _) (tm _ _)) to) (tf _)
    · unfold mDat; exact ti (tb (tm _ _) (tm _ _)) to
  exact all q h
def ckI (σ : zS) (b : Nat → Nat) (E : Nat) (m : Nat) (x1 : Int32) (s : zS) : Prop := (∃ cnt n A a f, m + a = E + 10 ∧ x1 = nI cnt ∧ cnt ≤ a ∧ n ≤ 12 ∧ E + 1 ≤ f + a ∧ cSt s b E a ∧ MD s b E A n ∧ sQ σ s ∧ mSecs b E f n A a = mRead b E) ∨ (∃ kk p, m = 0 ∧ cEq s kk p ∧ sQ σ s ∧ mRead b E = .error (kk, p))
/-- check: R tells of a read that failed, G of one that went through -/
theorem ck_all {σ : zS} {b : Nat → Nat} {E : Nat} {K : Int32 → zS → Prop} {QX : zS → Prop} (hv : sV0 σ) (hb : cB σ b) (h1 : σ.1 1 1 = nI E) (hE : E ≤ 16000)
    (hR : ∀ kk p s s3, mRead b E = .error (kk, p) → sQ σ s → cEq s kk p → ckF s s3 → K (nI kk) s3)
    (hG : ∀ A n s, mRead b E = .ok A → sQ σ s → cSt s b E E → MD s b E A n → mNoFit A 10 = false → mNoFit A 11 = false → (¬ wr s → nG A) ∧ (wr s → ∀ s3, ckF s s3 → K 2 s3) ∧ (¬ wr s → ∀ s3, ckG s s3 → kR s3 (some A) → K 0 s3)) : zCT zZC zmX8_check [.ref 0] σ (zQi K) QX := by
  refine rX8_check (ckI σ b E) ?_ ?_
  · intro m x1 s hI
    -- the end, from any state at the module's end, or with a fault
    have bad39 : ∀ kk p u, cEq u kk p → sQ σ u → mRead b E = .error (kk, p) → PX8_check_39 (fun y1 τ => ∃ n', zlt n' (some m) ∧ ckI σ b E n' y1 τ) (zQi K) QX u := fun kk p u her hq hx => by
      unfold PX8_check_39
      refine rX6_finish ?_
      unfold PX6_finish_0
      exact fe_fit her (fe_fit her (ck_bad her (fun s3 h3 => hR kk p u s3 hx hq her h3)))
    have good39 : ∀ n A f u, 1 ≤ f → cSt u b E E → MD u b E A n → sQ σ u → mSecs b E f n A E = mRead b E → PX8_check_39 (fun y1 τ => ∃ n', zlt n' (some m) ∧ ckI σ b E n' y1 τ) (zQi K) QX u := fun n A f u hf hs hM hq hx => by
      obtain ⟨f', rfl⟩ : ∃ f', f = f' + 1 := ⟨f - 1, by omega⟩
      rw [mSecs_1, if_pos (Nat.lt_irrefl _)] at hx
      have hM0 := hM
      obtain ⟨r1, r2, r3, r4, r5, r6, r7, r8, r9, r10, r11⟩ := hM0
      unfold PX8_check_39
      refine rX6_finish ?_
      unfold PX6_finish_0
      by_cases q10 : mNoFit A 10 = true
      · rw [if_pos (Or.inl q10)] at hx
        refine rd_fit (k := 10) hs (by decide) r10 r7 r2 ?_
        rw [if_pos q10]
        intro s1 her q1
        exact fe_fit her.x (ck_bad her.x (fun s3 h3 => hR 1 E s1 s3 hx.symm (hq.trans q1) her.x h3))
      · refine rd_fit (k := 10) hs (by decide) r10 r7 r2 ?_
        rw [if_neg q10]
        by_cases q11 : mNoFit A 11 = true
        · rw [if_pos (Or.inr q11)] at hx
          refine rd_fit (k := 11) hs (by decide) r10 r7 r2 ?_
          rw [if_pos q11]
          intro s1 her q1
          exact ck_bad her.x (fun s3 h3 => hR 1 E s1 s3 hx.symm (hq.trans q1) her.x h3)
        · rw [if_neg (fun z => z.elim q10 q11)] at hx
          refine rd_fit (k := 11) hs (by decide) r10 r7 r2 ?_
          rw [if_neg q11]
          have n10 : mNoFit A 10 = false := by simpa using q10
          have n11 : mNoFit A 11 = false := by simpa using q11
          have hD : (aD A).length = (aF A).length := by
            have := n10
            rw [noFit10] at this
            simpa using this
          obtain ⟨g1, g2, g3⟩ := hG A n u hx.symm hq hs hM n10 n11
          exact ck_good hs hM hD g1 g2 g3
    unfold PX8_check_9
    rcases hI with ⟨cnt, n, A, a, f, hm, rfl, hca, hn, hf, hs, hM, hq, hx⟩ | ⟨kk, p, rfl, her, hq, hx⟩
    · have ha := hs.2.2.2.2.2.1
      have c1 : (16000 : Int32) ≤ nI cnt ↔ 16000 ≤ cnt := nI_leI (a := 16000) (by decide) (by omega)
      rw [c1]
      refine ⟨fun q => ?_, fun q => ?_⟩
      · have e : a = E := by omega
        subst e
        exact good39 n A f s (by omega) hs hM hq hx
      · refine rX6_areMore ?_
        unfold PX6_areMore_0
        have c2 : s.1 1 3 ≤ s.1 1 2 ↔ E ≤ a := by rw [hs.2.2.2.2.1, hs.2.2.2.1]; exact nI_leI (by omega) (by omega)
        rw [c2]
        refine ⟨fun _ => ⟨fun q2 => ⟨Or.inl rfl, fun _ => ?_, fun z => absurd rfl z⟩, fun q2 => ⟨Or.inr rfl, fun z => absurd z (by decide), fun _ => ?_⟩⟩, fun z => absurd hs.2.2.1 z⟩
        · have e : a = E := by omega
          subst e
          exact good39 n A f s (by omega) hs hM hq hx
        · obtain ⟨f', rfl⟩ : ∃ f', f = f' + 1 := ⟨f - 1, by omega⟩
          rw [mSecs_1, if_neg (show ¬ ¬ a < E by omega), mS1_eq (by omega)] at hx
          refine rd_readSection hs hM hn (mW_mono mW_self (fun r hr _ s' hs' hM' q' => ?_) (fun kk p her _ s' he' q' => ⟨0, by show 0 < m; omega, Or.inr ⟨kk, p, rfl, he', hq.trans q', ?_⟩⟩))
          · obtain ⟨i1, i2, i3⟩ := mS1c_in ha hn hr
            rw [hr] at hx
            exact ⟨m - (r.2 - a), by show m - (r.2 - a) < m; omega, Or.inl ⟨cnt + 1, r.1.2, r.1.1, r.2, f', by omega, nI_1 cnt, by omega, i3, by omega, hs', hM', hq.trans q', hx⟩⟩
          · rw [her] at hx
            exact hx.symm
    · refine ⟨fun _ => bad39 kk p s her hq hx, fun _ => ?_⟩
      refine rX6_areMore ?_
      unfold PX6_areMore_0
      exact ⟨fun z => absurd z her.bad, fun _ => ⟨Or.inl rfl, fun _ => bad39 kk p s her hq hx, fun z => absurd rfl z⟩⟩
  · unfold PX8_check_0
    refine ck_begin hv hb h1 hE (mW_mono mW_self (fun r hr _ s' hs' hM' q' => ⟨E + 10 - r, trivial, Or.inl ⟨0, 0, m0, r, E + 1, by have := hs'.2.2.2.2.2.1; omega, rfl, Nat.zero_le _, by decide, by omega, hs', hM', q', ?_⟩⟩) (fun kk p her _ s' he' q' => ⟨0, trivial, Or.inr ⟨kk, p, rfl, he', q', ?_⟩⟩))
    · unfold mRead; rw [hr]; rfl
    · unfold mRead; rw [her]; rfl
