/-! a section, whole -/
def stP {α : Type} (b : Nat → Nat) (e k : Nat) (lim : Option Nat) (P : Nat → mE (α × Nat)) (I : List α → Nat → zS → Prop) (QX : zS → Prop) : Prop := ∀ (l : List α) (p : Nat) (σ : zS) (K' : zS → Prop), cSt σ b e p → I l p σ → (∀ m, lim = some m → l.length < m) → l.length < 16000 → mW (P p) (fun r => ∀ s', sQ σ s' → (∀ u, u = zsI s' 18 k ((s'.1 18 k) + (1 : Int32)) → cSt u b e r.2 ∧ I (l ++ [r.1]) r.2 u) → K' s') (cEv σ K') → rsI QX k (nI l.length) σ K'
def scH {α : Type} (b : Nat → Nat) (e E k : Nat) (lim : Option Nat) (P : Nat → mE (α × Nat)) (I : List α → Nat → zS → Prop) (QX : zS → Prop) : Prop := k < 13 ∧ (e ≤ E ∧ E ≤ 16000) ∧ zt_MOST_ITEMS_f k = nI (lim.getD 16000) ∧ (∀ m, lim = some m → m ≤ 64) ∧ (lim = none → ∀ a r, a ≤ e → P a = .ok r → a < r.2) ∧ stP b e k lim P I QX
def scJ (s : zS) (b : Nat → Nat) (E : Nat) (K : zS → Prop) (QX : zS → Prop) (m : Nat) (x1 x2 x3 x4 : Int32) (σ : zS) : Prop := ∃ (α : Type) (k e : Nat) (lim : Option Nat) (P : Nat → mE (α × Nat)) (I : List α → Nat → zS → Prop), scH b e E k lim P I QX ∧ scI s b e E k lim P I K QX m x1 x2 x3 x4 σ
theorem scJ_bad {s σ : zS} {b : Nat → Nat} {E kk p : Nat} {K : zS → Prop} {QX : zS → Prop} (hE : E ≤ 16000) (her : cEq σ kk p) (q : sQ s σ) (h : cEx s K kk p) (x1 x2 x3 x4 : Int32) : ∃ n', zlt n' none ∧ scJ s b E K QX n' x1 x2 x3 x4 σ :=
  ⟨0, trivial, Unit, 0, E, some 1, fun a => .error (1, a), fun _ _ _ => False, ⟨by decide, ⟨Nat.le_refl _, hE⟩, (by decide +kernel), fun m hm => (by cases hm; decide), fun z => (by cases z), fun _ _ _ _ _ z => z.elim⟩, Or.inr ⟨kk, p, rfl, her, q, h⟩⟩
theorem isRow_n {k : Nat} {s : zS} {K : Int32 → zS → Prop} {QX : zS → Prop} (hk : k < 13) (h : K (if k = 0 ∨ k = 8 ∨ k = 12 then 0 else 1) s) : zCT zZC zmX6_isRow [.int (nI k)] s (zQi K) QX := by
  refine rX6_isRow ?_
  unfold PX6_isRow_0
  have c : ∀ j, j < 13 → (nI k = nI j ↔ k = j) := fun j hj => nI_eq (by omega) (by omega)
  refine ⟨fun q => ⟨Or.inl rfl, ?_⟩, fun q => ⟨fun q2 => ⟨Or.inl rfl, ?_⟩, fun q2 => ⟨fun q3 => ⟨Or.inl rfl, ?_⟩, fun q3 => ⟨Or.inr rfl, ?_⟩⟩⟩⟩
  · rw [if_pos (Or.inl ((c 0 (by decide)).1 q))] at h; exact h
  · rw [if_pos (Or.inr (Or.inl ((c 8 (by decide)).1 q2)))] at h; exact h
  · rw [if_pos (Or.inr (Or.inr ((c 12 (by decide)).1 q3)))] at h; exact h
  · rw [if_neg (fun z => z.elim (fun z => q ((c 0 (by decide)).2 z)) (fun z => z.elim (fun z => q2 ((c 8 (by decide)).2 z)) (fun z => q3 ((c 12 (by decide)).2 z))))] at h; exact h
section Sec
variable {α : Type} {s s3 : zS} {b : Nat → Nat} {e E k n a : Nat} {lim : Option Nat} {P : Nat → mE (α × Nat)} {I : List α → Nat → zS → Prop} {Mf : List α → mA} {K : zS → Prop} {QX : zS → Prop}
/-- a section's end -/
theorem sec_end (hM : ∀ l p σ, I l p σ → MD σ b E (Mf l) n) (hk : k < 13) (l : List α) (h : mW (if mNoFit (Mf l) k = true then .error (1, e) else .ok () : mE Unit) (fun _ => ∀ s', cSt s' b E e → MD s' b E (Mf l) n → sQ s s' → K s') (cEx s K)) : scF s b e E k I K QX l := fun σ u hs q hI ku hu => by
  have hm := MD_g ku.g (by decide) (hM _ _ _ hI)
  exact rd_fit hu hk hm.2.2.2.2.2.2.2.2.2.1 hm.2.2.2.2.2.2.1 hm.2.1 (mW_mono h (fun _ _ hK => hK u hu hm (q.trans ku.q)) (fun kk p _ h2 => (h2.to (q.trans ku.q)).ev))
theorem mW_end (X : mE (List α × Nat)) (h : mW (X.bind fun r => mSE e k n (Mf r.1) r.2) (fun r => ∀ s', cSt s' b E r.2 → MD s' b E r.1.1 r.1.2 → sQ s s' → K s') (cEx s K)) (hM : ∀ l p σ, I l p σ → MD σ b E (Mf l) n) (hk : k < 13) : mW X (fun r => mW (if r.2 < e then .error (1, r.2) else .ok r.2 : mE Nat) (fun _ => scF s b e E k I K QX r.1) (cEx s K)) (cEx s K) := by
  rw [mW_bind] at h
  refine mW_mono h (fun r hr h => ?_) (fun _ _ _ h2 => h2)
  unfold mSE at h
  rw [mW_bind] at h
  refine mW_mono h (fun _ _ h => ?_) (fun _ _ _ h2 => h2)
  rw [mW_bind] at h
  exact sec_end hM hk r.1 (mW_mono h (fun _ _ h => h) (fun _ _ _ h2 => h2))
theorem sec_row (hH : scH b e E k lim P I QX) (hr : ¬ (k = 0 ∨ k = 8 ∨ k = 12)) (hs3 : cSt s3 b e a) (ha : 1 ≤ a) (hq : sQ s s3) (hM : ∀ l p σ, I l p σ → MD σ b E (Mf l) n) (hI : ∀ p u, cSt u b e p → a ≤ p → fK s3 u → I [] p u)
    (h : mW (((mU b e a).bind fun n => mRow P lim n.1 [] n.2).bind fun r => mSE e k n (Mf r.1) r.2) (fun r => ∀ s', cSt s' b E r.2 → MD s' b E r.1.1 r.1.2 → sQ s s' → K s') (cEx s K)) : zCT zZC zmX6_isRow [.int (nI k)] s3 (zQi (fun r6 s5 =>
        ((r6 = 0 →
          ∃ n', zlt n' none ∧ scJ s b E K QX n' (nI k) (nI E) (1 : Int32) (0 : Int32) s5) ∧ (¬ r6 = 0 →
          zCT zZC zmX4_rowLength [.ref 1] s5 (zQi (fun r8 s7 =>
            ∃ n', zlt n' none ∧ scJ s b E K QX n' (nI k) (nI E) r8 (0 : Int32) s7)) QX)))) QX := by
  have hE := hH.2.1.2
  refine isRow_n hH.1 ?_
  rw [if_neg hr]
  refine ⟨fun z => absurd z (by decide), fun _ => ?_⟩
  have h := mW_end (I := I) (QX := QX) _ h hM hH.1
  rw [mW_bind] at h
  refine rd_rowLength hs3 (mW_mono h (fun m hm h s7 k7 hs7 => ?_) (fun kk p _ h2 v s7 her q7 => scJ_bad hE her.x (hq.trans q7) h2 _ _ _ _))
  have hin := mU_in hm hs3.2.2.2.2.2.1
  exact ⟨m.1 + 1, trivial, α, k, e, lim, P, I, hH, Or.inl ⟨m.1, [], m.2, rfl, Nat.zero_le _, rfl, rfl, rfl, rfl, fun _ => (by show 0 + 1 ≤ m.2; omega), fun _ _ => Nat.zero_le _, hs7, hq.trans k7.q, hI m.2 s7 hs7 (by omega) k7, h⟩⟩
theorem sec_one (hH : scH b e E k lim P I QX) (hr : k = 0 ∨ k = 8 ∨ k = 12) (hl : lim = some 1) (hs3 : cSt s3 b e a) (hq : sQ s s3) (hM : ∀ l p σ, I l p σ → MD σ b E (Mf l) n) (hI : I [] a s3)
    (h : mW ((mRow P lim 1 [] a).bind fun r => mSE e k n (Mf r.1) r.2) (fun r => ∀ s', cSt s' b E r.2 → MD s' b E r.1.1 r.1.2 → sQ s s' → K s') (cEx s K)) : zCT zZC zmX6_isRow [.int (nI k)] s3 (zQi (fun r6 s5 =>
        ((r6 = 0 →
          ∃ n', zlt n' none ∧ scJ s b E K QX n' (nI k) (nI E) (1 : Int32) (0 : Int32) s5) ∧ (¬ r6 = 0 →
          zCT zZC zmX4_rowLength [.ref 1] s5 (zQi (fun r8 s7 =>
            ∃ n', zlt n' none ∧ scJ s b E K QX n' (nI k) (nI E) r8 (0 : Int32) s7)) QX)))) QX := by
  refine isRow_n hH.1 ?_
  rw [if_pos hr]
  refine ⟨fun _ => ?_, fun z => absurd rfl z⟩
  have h := mW_end (I := I) (QX := QX) _ h hM hH.1
  exact ⟨2, trivial, α, k, e, lim, P, I, hH, Or.inl ⟨1, [], a, rfl, Nat.zero_le _, rfl, rfl, rfl, rfl, fun z => (by rw [hl] at z; cases z), fun _ _ => Nat.zero_le _, hs3, hq, hI, h⟩⟩
end Sec
theorem bind_as {α β γ : Type} {X : mE (α × Nat)} {f : α → β} {G : β × Nat → mE γ} : (X.bind fun r => .ok (f r.1, r.2)).bind G = X.bind fun r => G (f r.1, r.2) := by cases X <;> rfl
theorem rd_readSection {s : zS} {b : Nat → Nat} {E a n : Nat} {A : mA} {K : zS → Prop} {QX : zS → Prop} (hs : cSt s b E a) (hM : MD s b E A n) (hn : n ≤ 12) (h : mW (mS1c b E n A a) (fun r => ∀ s', cSt s' b E r.2 → MD s' b E r.1.1 r.1.2 → sQ s s' → K s') (cEx s K)) : zCT zZC zmX6_readSection [.ref 3] s (zQv K) QX := by
  have hE := hs.2.1
  have haE := hs.2.2.2.2.2.1
  refine rX6_readSection (scJ s b E K QX) (fun m x1 x2 x3 x4 σ hJ => ?_) ?_
  · obtain ⟨α, k, e, lim, P, I, hH, hI⟩ := hJ
    exact rd_items (J := scJ s b E K QX) (fun n y1 y2 y3 y4 τ z => ⟨α, k, e, lim, P, I, hH, z⟩) hH.1 hH.2.1 hH.2.2.1 hH.2.2.2.1 hH.2.2.2.2.1 hH.2.2.2.2.2 m x1 x2 x3 x4 σ hI
  unfold PX6_readSection_0
  unfold mS1c at h
  rw [mW_bind] at h
  -- behind a fault
  have bad1 : ∀ kk p u r2 r4, cEr u kk p → sQ s u → cEx s K kk p → zCT zZC zmX6_isRow [.int r2] u (zQi (fun r6 s5 =>
        ((r6 = 0 →
          ∃ n', zlt n' none ∧ scJ s b E K QX n' r2 r4 (1 : Int32) (0 : Int32) s5) ∧ (¬ r6 = 0 →
          zCT zZC zmX4_rowLength [.ref 1] s5 (zQi (fun r8 s7 =>
            ∃ n', zlt n' none ∧ scJ s b E K QX n' r2 r4 r8 (0 : Int32) s7)) QX)))) QX := fun kk p u r2 r4 her q hx =>
    sf_X6_isRow her.v (fun r6 s5 _ k5 => ⟨fun _ => scJ_bad hE (her.keep k5).x (q.trans k5.q) hx _ _ _ _, fun _ => sf_X4_rowLength k5.2 (fun r8 s7 _ k7 => scJ_bad hE ((her.keep k5).keep k7).x ((q.trans k5.q).trans k7.q) hx _ _ _ _)⟩)
  refine rd_sectionNumber hs hM.2.2.2.2.2.2.2.1 hn (mW_mono h (fun r hr h s1 g1 hs1 h35 h12 => ?_) (fun kk p _ h2 v s1 her q1 => sf_X4_enter her.v (fun r4 s3 k3 => bad1 kk p s3 _ _ (her.keep k3) (q1.trans k3.q) h2)))
  rw [mW_bind] at h
  have q1 := g1.q (by decide)
  have hra : 1 ≤ r.2 ∧ r.2 ≤ E ∧ (r.1 = 0 ∨ n < mOrd r.1) := by
    unfold mSn at hr
    cases hw : mOw b E 0 12 a with
    | error q => rw [hw] at hr; cases hr
    | ok w =>
      rw [hw] at hr
      obtain ⟨w1, w2, w3, w4⟩ := mOw_in hw
      have hr : (if ¬ w.1 = 0 ∧ mOrd w.1 ≤ n then .error (1, a) else .ok w : mE (Nat × Nat)) = .ok r := hr
      by_cases q : ¬ w.1 = 0 ∧ mOrd w.1 ≤ n
      · rw [if_pos q] at hr; cases hr
      · rw [if_neg q] at hr
        cases hr
        have e2 : r.2 = a + 1 := by rw [w2]
        omega
  refine rd_enter hs1 (mW_mono h (fun z hz h s3 k3 hs3 => ?_) (fun kk p _ h2 v s3 her q3 => bad1 kk p s3 _ _ her (q1.trans q3) h2))
  have hz2 : 1 ≤ z.2 ∧ z.2 + z.1 ≤ E := by
    have hz : (mU b E r.2).bind (fun z => if E - z.2 < z.1 then .error (1, r.2) else .ok z) = (.ok z : mE (Nat × Nat)) := hz
    cases hu : mU b E r.2 with
    | error q => rw [hu] at hz; cases hz
    | ok u =>
      rw [hu] at hz
      have u1 := mU_in hu hra.2.1
      have hz : (if E - u.2 < u.1 then .error (1, r.2) else .ok u : mE (Nat × Nat)) = .ok z := hz
      by_cases q : E - u.2 < u.1
      · rw [if_pos q] at hz; cases hz
      · rw [if_neg q] at hz; cases hz; omega
  obtain ⟨e', he'⟩ : ∃ e', e' = z.2 + z.1 := ⟨_, rfl⟩
  rw [← he'] at h hs3 hz2
  have q3 : sQ s s3 := q1.trans k3.q
  have g3 : gF [0, 10] s s3 := g1.trans (k3.g.mono (by decide))
  obtain ⟨r1, r2, r3, r4, r5, r6, r7, r8, r9, r10, r11⟩ := hM
  -- the module at the section's begin
  have hMD : ∀ u n', gF [0, 10] s u → u.1 3 5 = nI n' → mE0 n' A → MD u b E A n' := fun u n' gu hu h0 => ⟨mdK_g gu (by decide) (by decide) (by decide) (by decide) (by decide) r1, mdT_g gu (by decide) r2, nmR_q (gu.g (by decide)) r3, cdM_g gu (by decide) r4, by rw [(gu.g (k := 11) (by decide) 4 6 rfl).1]; exact r5, by rw [wr_q (gu.g (by decide))]; exact r6, itM_g gu (by decide) r7, hu, by rw [(gu.g (k := 14) (by decide) 6 4 rfl).2]; exact r9, r10, h0⟩
  have h35' : s3.1 3 5 = nI (if r.1 = 0 then n else mOrd r.1) := by rw [(k3.g.g (k := 10) (by decide) 3 5 rfl).1]; exact h35
  have hcase : r.1 = 0 ∨ r.1 = 1 ∨ r.1 = 2 ∨ r.1 = 3 ∨ r.1 = 4 ∨ r.1 = 5 ∨ r.1 = 6 ∨ r.1 = 7 ∨ r.1 = 8 ∨ r.1 = 9 ∨ r.1 = 10 ∨ r.1 = 11 ∨ r.1 = 12 := by omega
  have hord := hra.2.2
  obtain ⟨x1, x2⟩ := r
  have hcase : x1 = 0 ∨ x1 = 1 ∨ x1 = 2 ∨ x1 = 3 ∨ x1 = 4 ∨ x1 = 5 ∨ x1 = 6 ∨ x1 = 7 ∨ x1 = 8 ∨ x1 = 9 ∨ x1 = 10 ∨ x1 = 11 ∨ x1 = 12 := hcase
  rcases hcase with rfl | rfl | rfl | rfl | rfl | rfl | rfl | rfl | rfl | rfl | rfl | rfl | rfl
  · have h : mW ((mSB b e' 0 A z.2).bind fun r => mSE e' 0 n r.1 r.2) (fun r => ∀ s', cSt s' b E r.2 → MD s' b E r.1.1 r.1.2 → sQ s s' → K s') (cEx s K) := h
    rw [mSB_0, bind_as (f := fun _ => A)] at h
    exact sec_one (k := 0) (Mf := fun _ => A) (I := fun _ _ σ => MD σ b E A n) ⟨by decide, ⟨hz2.2, hE⟩, (by decide +kernel), fun m hm => (by cases hm; decide), fun z => (by cases z), fun l p σ K' a1 a2 _ _ a5 => st_0 r10 l p σ K' a1 a2 a5⟩ (Or.inl rfl) rfl hs3 q3 (fun _ _ _ z => z) (hMD s3 n g3 h35' r11) h
  · have hlt : n < 1 := (show n < mOrd 1 from hord.resolve_left (show ¬ 1 = 0 by decide))
    have h0 : mE0 1 A := mE0_le (Nat.le_of_lt hlt) r11
    have hnil : aS A = [] := r11.1 hlt
    have h : mW ((mSB b e' 1 A z.2).bind fun r => mSE e' 1 1 r.1 r.2) (fun r => ∀ s', cSt s' b E r.2 → MD s' b E r.1.1 r.1.2 → sQ s s' → K s') (cEx s K) := h
    rw [mSB_1 hnil, bind_as (f := st1 A)] at h
    exact sec_row (k := 1) (P := mSig b e') (lim := some 64) (Mf := st1 A) (I := fun l _ σ => MD σ b E (st1 A l) 1) ⟨by decide, ⟨hz2.2, hE⟩, (by decide +kernel), fun m hm => (by cases hm; decide), fun z => (by cases z), fun l p σ K' a1 a2 a3 a4 a5 => st_1 hz2.2 h0 r10 l p σ K' a1 a2 a3 a4 a5⟩ (by decide) hs3 hz2.1 q3 (fun _ _ _ z => z) (fun p u hu hp ku => by show MD u b E (st1 A []) 1; exact (by rw [st1_0 hnil]; exact hMD u 1 (g3.trans (ku.g.mono (by decide))) (by rw [(ku.g.g (k := 10) (by decide) 3 5 rfl).1]; exact h35') h0)) h
  · have hlt : n < 2 := (show n < mOrd 2 from hord.resolve_left (show ¬ 2 = 0 by decide))
    have h0 : mE0 2 A := mE0_le (Nat.le_of_lt hlt) r11
    have hnil : aI A = [] := r11.2.1 hlt
    have h : mW ((mSB b e' 2 A z.2).bind fun r => mSE e' 2 2 r.1 r.2) (fun r => ∀ s', cSt s' b E r.2 → MD s' b E r.1.1 r.1.2 → sQ s s' → K s') (cEx s K) := h
    rw [mSB_2 hnil, bind_as (f := st2 A)] at h
    exact sec_row (k := 2) (P := mImp b e') (lim := some 32) (Mf := st2 A) (I := fun l _ σ => MD σ b E (st2 A l) 2) ⟨by decide, ⟨hz2.2, hE⟩, (by decide +kernel), fun m hm => (by cases hm; decide), fun z => (by cases z), fun l p σ K' a1 a2 a3 a4 a5 => st_2 hz2.2 h0 r10 l p σ K' a1 a2 a3 a4 a5⟩ (by decide) hs3 hz2.1 q3 (fun _ _ _ z => z) (fun p u hu hp ku => by show MD u b E (st2 A []) 2; exact (by rw [st2_0 hnil]; exact hMD u 2 (g3.trans (ku.g.mono (by decide))) (by rw [(ku.g.g (k := 10) (by decide) 3 5 rfl).1]; exact h35') h0)) h
  · have hlt : n < 3 := (show n < mOrd 3 from hord.resolve_left (show ¬ 3 = 0 by decide))
    have h0 : mE0 3 A := mE0_le (Nat.le_of_lt hlt) r11
    have hnil : aF A = [] := r11.2.2.1 hlt
    have h : mW ((mSB b e' 3 A z.2).bind fun r => mSE e' 3 3 r.1 r.2) (fun r => ∀ s', cSt s' b E r.2 → MD s' b E r.1.1 r.1.2 → sQ s s' → K s') (cEx s K) := h
    rw [mSB_3 hnil, bind_as (f := st3 A)] at h
    exact sec_row (k := 3) (P := mFn b e') (lim := some 64) (Mf := st3 A) (I := fun l _ σ => MD σ b E (st3 A l) 3) ⟨by decide, ⟨hz2.2, hE⟩, (by decide +kernel), fun m hm => (by cases hm; decide), fun z => (by cases z), fun l p σ K' a1 a2 a3 a4 a5 => st_3 hz2.2 h0 r10 l p σ K' a1 a2 a3 a4 a5⟩ (by decide) hs3 hz2.1 q3 (fun _ _ _ z => z) (fun p u hu hp ku => by show MD u b E (st3 A []) 3; exact (by rw [st3_0 hnil]; exact hMD u 3 (g3.trans (ku.g.mono (by decide))) (by rw [(ku.g.g (k := 10) (by decide) 3 5 rfl).1]; exact h35') h0)) h
  · have hlt : n < 4 := (show n < mOrd 4 from hord.resolve_left (show ¬ 4 = 0 by decide))
    have h0 : mE0 4 A := mE0_le (Nat.le_of_lt hlt) r11
    have hnil : aT A = [] := r11.2.2.2.1 hlt
    have h : mW ((mSB b e' 4 A z.2).bind fun r => mSE e' 4 4 r.1 r.2) (fun r => ∀ s', cSt s' b E r.2 → MD s' b E r.1.1 r.1.2 → sQ s s' → K s') (cEx s K) := h
    rw [mSB_4 hnil, bind_as (f := st4 A)] at h
    exact sec_row (k := 4) (P := mTab b e' true) (lim := none) (Mf := st4 A) (I := fun l _ σ => MD σ b E (st4 A l) 4) ⟨by decide, ⟨hz2.2, hE⟩, (by decide +kernel), fun m hm => (by cases hm), fun _ a r ha hr => (mTab_in ha hr).1, fun l p σ K' a1 a2 a3 a4 a5 => st_4 hz2.2 h0 r10 l p σ K' a1 a2 a3 a4 a5⟩ (by decide) hs3 hz2.1 q3 (fun _ _ _ z => z) (fun p u hu hp ku => by show MD u b E (st4 A []) 4; exact (by rw [st4_0 hnil]; exact hMD u 4 (g3.trans (ku.g.mono (by decide))) (by rw [(ku.g.g (k := 10) (by decide) 3 5 rfl).1]; exact h35') h0)) h
  · have hlt : n < 5 := (show n < mOrd 5 from hord.resolve_left (show ¬ 5 = 0 by decide))
    have h0 : mE0 5 A := mE0_le (Nat.le_of_lt hlt) r11
    have hnil : aM A = [] := r11.2.2.2.2.1 hlt
    have h : mW ((mSB b e' 5 A z.2).bind fun r => mSE e' 5 5 r.1 r.2) (fun r => ∀ s', cSt s' b E r.2 → MD s' b E r.1.1 r.1.2 → sQ s s' → K s') (cEx s K) := h
    rw [mSB_5 hnil, bind_as (f := st5 A)] at h
    exact sec_row (k := 5) (P := mTab b e' false) (lim := none) (Mf := st5 A) (I := fun l _ σ => MD σ b E (st5 A l) 5) ⟨by decide, ⟨hz2.2, hE⟩, (by decide +kernel), fun m hm => (by cases hm), fun _ a r ha hr => (mTab_in ha hr).1, fun l p σ K' a1 a2 a3 a4 a5 => st_5 hz2.2 h0 r10 l p σ K' a1 a2 a3 a4 a5⟩ (by decide) hs3 hz2.1 q3 (fun _ _ _ z => z) (fun p u hu hp ku => by show MD u b E (st5 A []) 5; exact (by rw [st5_0 hnil]; exact hMD u 5 (g3.trans (ku.g.mono (by decide))) (by rw [(ku.g.g (k := 10) (by decide) 3 5 rfl).1]; exact h35') h0)) h
  · have hlt : n < 6 := (show n < mOrd 6 from hord.resolve_left (show ¬ 6 = 0 by decide))
    have h0 : mE0 6 A := mE0_le (Nat.le_of_lt hlt) r11
    have hnil : aG A = [] := r11.2.2.2.2.2.1 hlt
    have h : mW ((mSB b e' 6 A z.2).bind fun r => mSE e' 6 6 r.1 r.2) (fun r => ∀ s', cSt s' b E r.2 → MD s' b E r.1.1 r.1.2 → sQ s s' → K s') (cEx s K) := h
    rw [mSB_6 hnil, bind_as (f := st6 A)] at h
    exact sec_row (k := 6) (P := mGl b e') (lim := some 32) (Mf := st6 A) (I := fun l _ σ => MD σ b E (st6 A l) 6) ⟨by decide, ⟨hz2.2, hE⟩, (by decide +kernel), fun m hm => (by cases hm; decide), fun z => (by cases z), fun l p σ K' a1 a2 a3 a4 a5 => st_6 hz2.2 h0 r10 l p σ K' a1 a2 a3 a4 a5⟩ (by decide) hs3 hz2.1 q3 (fun _ _ _ z => z) (fun p u hu hp ku => by show MD u b E (st6 A []) 6; exact (by rw [st6_0 hnil]; exact hMD u 6 (g3.trans (ku.g.mono (by decide))) (by rw [(ku.g.g (k := 10) (by decide) 3 5 rfl).1]; exact h35') h0)) h
  · have hlt : n < 7 := (show n < mOrd 7 from hord.resolve_left (show ¬ 7 = 0 by decide))
    have h0 : mE0 7 A := mE0_le (Nat.le_of_lt hlt) r11
    have hnil : aX A = [] := r11.2.2.2.2.2.2.1 hlt
    have h : mW ((mSB b e' 7 A z.2).bind fun r => mSE e' 7 7 r.1 r.2) (fun r => ∀ s', cSt s' b E r.2 → MD s' b E r.1.1 r.1.2 → sQ s s' → K s') (cEx s K) := h
    rw [mSB_7 hnil, bind_as (f := st7 A)] at h
    exact sec_row (k := 7) (P := mEx b e') (lim := some 64) (Mf := st7 A) (I := fun l _ σ => MD σ b E (st7 A l) 7) ⟨by decide, ⟨hz2.2, hE⟩, (by decide +kernel), fun m hm => (by cases hm; decide), fun z => (by cases z), fun l p σ K' a1 a2 a3 a4 a5 => st_7 hz2.2 h0 r10 l p σ K' a1 a2 a3 a4 a5⟩ (by decide) hs3 hz2.1 q3 (fun _ _ _ z => z) (fun p u hu hp ku => by show MD u b E (st7 A []) 7; exact (by rw [st7_0 hnil]; exact hMD u 7 (g3.trans (ku.g.mono (by decide))) (by rw [(ku.g.g (k := 10) (by decide) 3 5 rfl).1]; exact h35') h0)) h
  · have hlt : n < 8 := (show n < mOrd 8 from hord.resolve_left (show ¬ 8 = 0 by decide))
    have h0 : mE0 8 A := mE0_le (Nat.le_of_lt hlt) r11
    have hnil : aB A = none := r11.2.2.2.2.2.2.2.1 hlt
    have h : mW ((mSB b e' 8 A z.2).bind fun r => mSE e' 8 8 r.1 r.2) (fun r => ∀ s', cSt s' b E r.2 → MD s' b E r.1.1 r.1.2 → sQ s s' → K s') (cEx s K) := h
    rw [mSB_8, bind_as (f := st8 A)] at h
    exact sec_one (k := 8) (P := mP8 b e') (Mf := st8 A) (I := fun l _ σ => MD σ b E (st8 A l) 8) ⟨by decide, ⟨hz2.2, hE⟩, (by decide +kernel), fun m hm => (by cases hm; decide), fun z => (by cases z), fun l p σ K' a1 a2 a3 a4 a5 => st_8 hz2.2 h0 r10 l p σ K' a1 a2 a3 a4 a5⟩ (Or.inr (Or.inl rfl)) rfl hs3 q3 (fun _ _ _ z => z) (by show MD s3 b E (st8 A []) 8; rw [st8_0 hnil]; exact hMD s3 8 g3 h35' h0) h
  · have hlt : n < 9 := (show n < mOrd 9 from hord.resolve_left (show ¬ 9 = 0 by decide))
    have h0 : mE0 9 A := mE0_le (Nat.le_of_lt hlt) r11
    have hnil : aE A = [] := r11.2.2.2.2.2.2.2.2.1 hlt
    have h : mW ((mSB b e' 9 A z.2).bind fun r => mSE e' 9 9 r.1 r.2) (fun r => ∀ s', cSt s' b E r.2 → MD s' b E r.1.1 r.1.2 → sQ s s' → K s') (cEx s K) := h
    rw [mSB_9 hnil, bind_as (f := st9 A)] at h
    exact sec_row (k := 9) (P := mEl b e') (lim := some 32) (Mf := st9 A) (I := fun l _ σ => MD σ b E (st9 A l) 9) ⟨by decide, ⟨hz2.2, hE⟩, (by decide +kernel), fun m hm => (by cases hm; decide), fun z => (by cases z), fun l p σ K' a1 a2 a3 a4 a5 => st_9 hz2.2 h0 r10 l p σ K' a1 a2 a3 a4 a5⟩ (by decide) hs3 hz2.1 q3 (fun _ _ _ z => z) (fun p u hu hp ku => by show MD u b E (st9 A []) 9; exact (by rw [st9_0 hnil]; exact hMD u 9 (g3.trans (ku.g.mono (by decide))) (by rw [(ku.g.g (k := 10) (by decide) 3 5 rfl).1]; exact h35') h0)) h
  · have hlt : n < 11 := (show n < mOrd 10 from hord.resolve_left (show ¬ 10 = 0 by decide))
    have h0 : mE0 11 A := mE0_le (Nat.le_of_lt hlt) r11
    have hnil : aD A = [] := r11.2.2.2.2.2.2.2.2.2.2.1 hlt
    have h : mW ((mSB b e' 10 A z.2).bind fun r => mSE e' 10 11 r.1 r.2) (fun r => ∀ s', cSt s' b E r.2 → MD s' b E r.1.1 r.1.2 → sQ s s' → K s') (cEx s K) := h
    rw [mSB_10 hnil, bind_as (f := st10 A)] at h
    exact sec_row (k := 10) (P := mBd b e' (aC A).isSome) (lim := none) (Mf := st10 A) (I := fun l p σ => MD σ b E (st10 A l) 11 ∧ (allC l).length ≤ p) ⟨by decide, ⟨hz2.2, hE⟩, (by decide +kernel), fun m hm => (by cases hm), fun _ a r ha hr => (mBd_in ha hr).1, fun l p σ K' a1 a2 a3 a4 a5 => st_10 hz2.2 h0 r10 l p σ K' a1 a2 a3 a4 a5⟩ (by decide) hs3 hz2.1 q3 (fun _ _ _ z => z.1) (fun p u hu hp ku => ⟨by exact (by rw [st10_0 hnil]; exact hMD u 11 (g3.trans (ku.g.mono (by decide))) (by rw [(ku.g.g (k := 10) (by decide) 3 5 rfl).1]; exact h35') h0), Nat.zero_le _⟩) h
  · have hlt : n < 12 := (show n < mOrd 11 from hord.resolve_left (show ¬ 11 = 0 by decide))
    have h0 : mE0 12 A := mE0_le (Nat.le_of_lt hlt) r11
    have hnil : aZ A = [] := r11.2.2.2.2.2.2.2.2.2.2.2 hlt
    have h : mW ((mSB b e' 11 A z.2).bind fun r => mSE e' 11 12 r.1 r.2) (fun r => ∀ s', cSt s' b E r.2 → MD s' b E r.1.1 r.1.2 → sQ s s' → K s') (cEx s K) := h
    rw [mSB_11 hnil, bind_as (f := st11 A)] at h
    exact sec_row (k := 11) (P := mDt b e') (lim := some 32) (Mf := st11 A) (I := fun l _ σ => MD σ b E (st11 A l) 12) ⟨by decide, ⟨hz2.2, hE⟩, (by decide +kernel), fun m hm => (by cases hm; decide), fun z => (by cases z), fun l p σ K' a1 a2 a3 a4 a5 => st_11 hz2.2 h0 r10 l p σ K' a1 a2 a3 a4 a5⟩ (by decide) hs3 hz2.1 q3 (fun _ _ _ z => z) (fun p u hu hp ku => by show MD u b E (st11 A []) 12; exact (by rw [st11_0 hnil]; exact hMD u 12 (g3.trans (ku.g.mono (by decide))) (by rw [(ku.g.g (k := 10) (by decide) 3 5 rfl).1]; exact h35') h0)) h
  · have hlt : n < 10 := (show n < mOrd 12 from hord.resolve_left (show ¬ 12 = 0 by decide))
    have h0 : mE0 10 A := mE0_le (Nat.le_of_lt hlt) r11
    have hnil : aC A = none := r11.2.2.2.2.2.2.2.2.2.1 hlt
    have h : mW ((mSB b e' 12 A z.2).bind fun r => mSE e' 12 10 r.1 r.2) (fun r => ∀ s', cSt s' b E r.2 → MD s' b E r.1.1 r.1.2 → sQ s s' → K s') (cEx s K) := h
    rw [mSB_12, bind_as (f := st12 A)] at h
    exact sec_one (k := 12) (P := mU b e') (Mf := st12 A) (I := fun l _ σ => MD σ b E (st12 A l) 10) ⟨by decide, ⟨hz2.2, hE⟩, (by decide +kernel), fun m hm => (by cases hm; decide), fun z => (by cases z), fun l p σ K' a1 a2 a3 a4 a5 => st_12 hz2.2 h0 r10 l p σ K' a1 a2 a3 a4 a5⟩ (Or.inr (Or.inr rfl)) rfl hs3 q3 (fun _ _ _ z => z) (by show MD s3 b E (st12 A []) 10; rw [st12_0 hnil]; exact hMD s3 10 g3 h35' h0) h
