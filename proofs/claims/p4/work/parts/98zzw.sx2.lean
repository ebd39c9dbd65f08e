/-! the items of a section -/
def scF {α : Type} (s : zS) (b : Nat → Nat) (e eo k : Nat) (I : List α → Nat → zS → Prop) (K : zS → Prop) (QX : zS → Prop) (l : List α) : Prop := ∀ σ u, cSt σ b e e → sQ s σ → I l e σ → fK σ u → cSt u b eo e → zCT zZC zmX6_fit [.ref 3, .int (nI k)] u (zQv K) QX
def scI {α : Type} (s : zS) (b : Nat → Nat) (e eo k : Nat) (lim : Option Nat) (P : Nat → mE (α × Nat)) (I : List α → Nat → zS → Prop) (K : zS → Prop) (QX : zS → Prop) (m : Nat) (x1 x2 x3 x4 : Int32) (σ : zS) : Prop :=
  (∃ n l p, m + l.length = n + 1 ∧ l.length ≤ n ∧ x1 = nI k ∧ x2 = nI eo ∧ x3 = nI (min n 16000) ∧ x4 = nI l.length ∧ (lim = none → l.length + 1 ≤ p) ∧ (∀ m, lim = some m → l.length ≤ m) ∧ cSt σ b e p ∧ sQ s σ ∧ I l p σ ∧ mW (mRow P lim (n - l.length) l p) (fun r => mW (if r.2 < e then .error (1, r.2) else .ok r.2 : mE Nat) (fun _ => scF s b e eo k I K QX r.1) (cEx s K)) (cEx s K)) ∨ (∃ kk p, m = 0 ∧ cEq σ kk p ∧ sQ s σ ∧ cEx s K kk p)
theorem zt_items_n : zt_MOST_ITEMS_n = 13 := rfl
theorem rd_items {α : Type} {s : zS} {b : Nat → Nat} {e eo k : Nat} {lim : Option Nat} {P : Nat → mE (α × Nat)} {I : List α → Nat → zS → Prop} {K : zS → Prop} {QX : zS → Prop} {J : Nat → Int32 → Int32 → Int32 → Int32 → zS → Prop} (hJ : ∀ n y1 y2 y3 y4 τ, scI s b e eo k lim P I K QX n y1 y2 y3 y4 τ → J n y1 y2 y3 y4 τ) (hk : k < 13) (heo : e ≤ eo ∧ eo ≤ 16000) (hm : zt_MOST_ITEMS_f k = nI (lim.getD 16000)) (hl64 : ∀ m, lim = some m → m ≤ 64)
    (hP : lim = none → ∀ a r, a ≤ e → P a = .ok r → a < r.2)
    (hstep : ∀ (l : List α) (p : Nat) (σ : zS) (K' : zS → Prop), cSt σ b e p → I l p σ → (∀ m, lim = some m → l.length < m) → l.length < 16000 → mW (P p) (fun r => ∀ s', sQ σ s' → (∀ u, u = zsI s' 18 k ((s'.1 18 k) + (1 : Int32)) → cSt u b e r.2 ∧ I (l ++ [r.1]) r.2 u) → K' s') (cEv σ K') → rsI QX k (nI l.length) σ K')
    (m : Nat) (x1 x2 x3 x4 : Int32) (σ : zS) (h : scI s b e eo k lim P I K QX m x1 x2 x3 x4 σ) : PX6_readSection_35 (fun y1 y2 y3 y4 τ => ∃ n', zlt n' (some m) ∧ J n' y1 y2 y3 y4 τ) (zQv K) QX x1 x2 x3 x4 σ := by
  rcases h with ⟨n, l, p, hmn, hln, rfl, rfl, rfl, rfl, hpn, hpm, hs, hq, hI, hw⟩ | ⟨kk, p, rfl, her, q, hE⟩
  · have hp := hs.2.2.2.2.2.1
    have he := hs.2.1
    have h16 : l.length < 16000 := by
      cases hlim : lim with
      | none => have := hpn hlim; omega
      | some m => have := hpm m hlim; have := hl64 m hlim; omega
    unfold PX6_readSection_35
    have c1 : nI (min n 16000) ≤ nI l.length ↔ n ≤ l.length := by rw [nI_leI (by omega) (by omega)]; omega
    rw [c1]
    have vk : vp_in (nI k) 13 := vp_in_nI hk (by decide)
    refine ⟨fun q => ?_, fun q => ⟨fun _ => ⟨vk, ?_⟩, fun z => absurd hs.2.2.1 z⟩⟩
    · rw [show n - l.length = 0 by omega, mRow_0] at hw
      have hw : mW (if p < e then .error (1, p) else .ok p : mE Nat) (fun _ => scF s b e eo k I K QX l) (cEx s K) := hw
      unfold PX6_readSection_258
      refine rd_leave hs rfl heo (mW_mono hw (fun r hr hwF u ku hu => ?_) (fun kk q hq2 h2 u her q2 => fe_fit her.x (h2 u her.x (hq.trans q2))))
      have er : r = p ∧ p = e := by
        by_cases q2 : p < e
        · rw [if_pos q2] at hr; cases hr
        · rw [if_neg q2] at hr; cases hr; exact ⟨rfl, by omega⟩
      obtain ⟨rfl, rfl⟩ := er
      exact hwF σ u hs hq hI ku hu
    · rw [show n - l.length = (n - (l.length + 1)) + 1 by omega, mRow_s] at hw
      refine rX6_refuseBeyond ?_
      unfold PX6_refuseBeyond_0
      rw [nI_clamp (by omega), hm]
      have hM : lim.getD 16000 ≤ 16000 := by
        cases hlim : lim with
        | none => exact Nat.le_refl _
        | some m => have := hl64 m hlim; show m ≤ 16000; omega
      have c2 : nI l.length < nI (lim.getD 16000) ↔ l.length < lim.getD 16000 := nI_ltI (by omega) (by omega)
      rw [c2]
      -- the next round behind a fault
      have bad : ∀ kk q u, cEq u kk q → sQ s u → cEx s K kk q → PX6_readSection_239 (fun y1 y2 y3 y4 τ => ∃ n', zlt n' (some m) ∧ J n' y1 y2 y3 y4 τ) (zQv K) QX (nI k) (nI eo) (nI (min n 16000)) (nI l.length) u := fun kk q u her q2 hE => by
        unfold PX6_readSection_239
        rw [nI_clamp (by omega)]
        refine ⟨vk, vk, fun s1 e1 => ⟨0, by show 0 < m; omega, hJ _ _ _ _ _ _ (Or.inr ⟨kk, q, rfl, ⟨by rw [e1, zI1, if_neg (by omega)]; exact her.1, her.2.1, by rw [e1, zI1, if_neg (by omega)]; exact her.2.2.1, by rw [e1]; exact her.2.2.2.i _ (by omega)⟩, q2.trans (by rw [e1]; exact sQ.rf.i _ (by omega)), hE⟩)⟩⟩
      refine ⟨fun c => ?_, fun c => ?_⟩
      · have hne : ¬ lim = some l.length := fun z => by rw [z] at c; exact Nat.lt_irrefl _ c
        rw [if_neg hne, mW_bind] at hw
        have hlt : ∀ m, lim = some m → l.length < m := fun m hm => by rw [hm] at c; exact c
        refine rs_disp hk rfl (hstep l p σ _ hs hI hlt h16 (mW_mono hw (fun r hr hw u qu hu => ?_) (fun kk q2 hq2 h2 u her q3 => bad kk q2 u her.x (hq.trans q3) h2)))
        unfold PX6_readSection_239
        rw [nI_clamp (by omega)]
        refine ⟨vk, vk, fun s1 e1 => ?_⟩
        obtain ⟨st1, i1⟩ := hu s1 e1
        refine ⟨m - 1, by show m - 1 < m; omega, hJ _ _ _ _ _ _ (Or.inl ⟨n, l ++ [r.1], r.2, by rw [List.length_append]; show m - 1 + (l.length + 1) = n + 1; omega, by rw [List.length_append]; show l.length + 1 ≤ n; omega, rfl, rfl, rfl, by rw [nI_1]; simp, fun z => ?_, fun m' hm' => ?_, st1, (hq.trans qu).trans (by rw [e1]; exact sQ.rf.i _ (by omega)), i1, ?_⟩)⟩
        · have := hP z p r hp hr
          have := hpn z
          rw [List.length_append]
          show l.length + 1 + 1 ≤ r.2
          omega
        · rw [List.length_append]
          exact hlt m' hm'
        · rw [show n - (l ++ [r.1]).length = n - (l.length + 1) by rw [List.length_append]; rfl]
          exact hw
      · have hsome : ∃ m, lim = some m := by
          cases hlim : lim with
          | none => rw [hlim] at c; exact absurd h16 c
          | some m => exact ⟨m, rfl⟩
        obtain ⟨m', hm'⟩ := hsome
        have hle := hpm m' hm'
        rw [hm'] at c
        have c : ¬ l.length < m' := c
        rw [if_pos (by rw [hm', show l.length = m' by omega])] at hw
        refine rd_fail 4 p hs (by decide) hs.2.2.2.1 (fun u her qu => ?_)
        refine rs_disp hk rfl (rs_bad her.v (fun z kz => bad 4 p z (her.keep kz).x ((hq.trans qu).trans kz.q) hw))
  · unfold PX6_readSection_35
    have out : PX6_readSection_258 (fun y1 y2 y3 y4 τ => ∃ n', zlt n' (some 0) ∧ J n' y1 y2 y3 y4 τ) (zQv K) QX x1 x2 σ := by
      unfold PX6_readSection_258
      exact fe_leave her (fun s1 e1 q1 => fe_fit e1 (hE s1 e1 (q.trans q1)))
    exact ⟨fun _ => out, fun _ => ⟨fun z => absurd z her.bad, fun _ => out⟩⟩
