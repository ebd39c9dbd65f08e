/-! start, elements, data, bodies; the whole -/
theorem ww_st {A : mA} : ¬ wSt A ↔ mSta A = .ok () := by
  cases hB : aB A with
  | none =>
    rw [wSt_n hB]
    unfold mSta
    rw [hB]
    exact ⟨fun _ => rfl, fun _ z => z⟩
  | some x =>
    have e1 : wSt A ↔ staBad (aS A).length (fnL A) (aS A) x.2 := ⟨fun ⟨y, hy, h⟩ => by rw [hB] at hy; cases hy; exact h, fun h => ⟨x, hB, h⟩⟩
    rw [e1]
    unfold mSta
    rw [hB]
    show _ ↔ ((mMust (x.2 < nFun A) x.1).bind fun _ => mMust ((staSig A x.2).1.length = 0 ∧ (staSig A x.2).2 = 2) x.1) = .ok ()
    rw [bU_iff, mMust_iff, mMust_iff]
    unfold staBad staSig
    by_cases q : x.2 < nFun A
    · rw [fnL_at q]
      show (¬ match (aS A)[funSig A x.2]? with
        | none => True
        | some g => ¬ (g.1.length = 0 ∧ g.2 = 2)) ↔ _
      by_cases q2 : funSig A x.2 < (aS A).length
      · rw [getD_of (d := (([], 0) : mSigT)) q2]
        exact ⟨fun h => ⟨q, Decidable.not_not.1 h⟩, fun h z => z h.2⟩
      · rw [List.getElem?_eq_none (by omega)]
        refine ⟨fun h => absurd trivial h, fun h => ?_⟩
        rw [List.getD_eq_getElem?_getD, List.getElem?_eq_none (by omega)] at h
        exact absurd h.2.2 (by decide)
    · rw [List.getElem?_eq_none (by rw [← nFun_k]; omega)]
      exact ⟨fun h => absurd trivial h, fun h => absurd h.1 q⟩
theorem mFns_iff {A : mA} : ∀ l : List (Nat × Nat), mFns A l = .ok () ↔ ∀ y ∈ l, y.2 < nFun A := by
  intro l
  induction l with
  | nil => exact ⟨fun _ y hy => absurd hy List.not_mem_nil, fun _ => rfl⟩
  | cons x r ih =>
    show ((mMust (x.2 < nFun A) x.1).bind fun _ => mFns A r) = .ok () ↔ _
    rw [bU_iff, mMust_iff, ih, List.forall_mem_cons]
theorem hasK_1 (A : mA) : hasK A 1 = decide (0 < kTb A) := by unfold hasK kTb; rw [cntI_k]; rfl
theorem hasK_2 (A : mA) : hasK A 2 = decide (0 < kMm A) := by unfold hasK kMm; rw [cntI_k]; rfl
theorem ww_el {A : mA} {b : Nat → Nat} {E : Nat} : ¬ wEl b E A ↔ ∀ i, i < (aE A).length → mElem b E A i = .ok () := by
  have one : ∀ i x, (aE A)[i]? = some x → (mElem b E A i = .ok () ↔ ¬ elBad (glL A) (kI 3 (aI A)).length (kTb A) (fnL A).length b E x) := fun i x hx => by
    unfold mElem elBad
    rw [bU_iff, get_D (d := el0) hx, mFns_iff, ww_cst, ← nFun_k]
    unfold mEl0
    by_cases q : x.2.1 = 0
    · rw [if_pos q, bU_iff, mMust_iff, mMust_iff, hasK_1, decide_eq_true_eq]
      exact ⟨fun h z => z.elim (fun z => z.2.elim (fun z => by omega) (fun z => z h.1.2)) (fun ⟨y, hy, hn⟩ => hn (h.2 y hy)), fun h => ⟨⟨Nat.pos_of_ne_zero (fun z => h (Or.inl ⟨q, Or.inl z⟩)), Classical.byContradiction (fun z => h (Or.inl ⟨q, Or.inr z⟩))⟩, fun y hy => Classical.byContradiction (fun z => h (Or.inr ⟨y, hy, z⟩))⟩⟩
    · rw [if_neg q]
      exact ⟨fun h z => z.elim (fun z => q z.1) (fun ⟨y, hy, hn⟩ => hn (h.2 y hy)), fun h => ⟨rfl, fun y hy => Classical.byContradiction (fun z => h (Or.inr ⟨y, hy, z⟩))⟩⟩
  unfold wEl
  rw [wL_no]
  exact ⟨fun h i hi => (one i _ (getD_of (d := el0) hi)).2 (h i _ (getD_of (d := el0) hi)), fun h i x hx => (one i x hx).1 (h i (get_len hx))⟩
theorem ww_dt {A : mA} {b : Nat → Nat} {E : Nat} : ¬ wDt b E A ↔ ∀ i, i < (aZ A).length → mDat b E A i = .ok () := by
  have one : ∀ i x, (aZ A)[i]? = some x → (mDat b E A i = .ok () ↔ ¬ dtBad (glL A) (kI 3 (aI A)).length (kMm A) b E x) := fun i x hx => by
    unfold mDat dtBad
    rw [get_D (d := dt0) hx, ww_cst]
    by_cases q : x.2.1 = 0
    · rw [if_pos q, bU_iff, mMust_iff, mMust_iff, hasK_2, decide_eq_true_eq]
      exact ⟨fun h z => z.2.elim (fun z => by omega) (fun z => z h.2), fun h => ⟨Nat.pos_of_ne_zero (fun z => h ⟨q, Or.inl z⟩), Classical.byContradiction (fun z => h ⟨q, Or.inr z⟩)⟩⟩
    · rw [if_neg q]
      exact ⟨fun _ z => q z.1, fun _ => rfl⟩
  unfold wDt
  rw [wL_no]
  exact ⟨fun h i hi => (one i _ (getD_of (d := dt0) hi)).2 (h i _ (getD_of (d := dt0) hi)), fun h i x hx => (one i x hx).1 (h i (get_len hx))⟩
theorem mIs_lk {b : Nat → Nat} {e a : Nat} {ow : List Nat} {nd : Option Nat} {r : mInsT × Nat} (h : mIs b e nd ow a = .ok r) : mLk r.1.1 a ow nd = .ok () := by
  unfold mIs at h
  cases hk : mNum b e a with
  | error q => rw [hk] at h; cases h
  | ok k =>
    rw [hk] at h
    have h : (mLk k.1 a ow nd).bind (fun _ => if k.1 = 14 then (mLb b e k.2).bind fun l => .ok ((k.1, 0, l.1), l.2) else (mArg b e k.1 k.2).bind fun r => .ok ((k.1, r.1, []), r.2)) = (.ok r : mE (mInsT × Nat)) := h
    cases hl : mLk k.1 a ow nd with
    | error q => rw [hl] at h; cases h
    | ok u =>
      rw [hl] at h
      have h : (if k.1 = 14 then (mLb b e k.2).bind fun l => .ok ((k.1, 0, l.1), l.2) else (mArg b e k.1 k.2).bind fun r => .ok ((k.1, r.1, []), r.2)) = (.ok r : mE (mInsT × Nat)) := h
      by_cases q : k.1 = 14
      · rw [if_pos q] at h
        cases hb : mLb b e k.2 with
        | error q => rw [hb] at h; cases h
        | ok l => rw [hb] at h; cases h; exact hl
      · rw [if_neg q] at h
        cases hb : mArg b e k.1 k.2 with
        | error q => rw [hb] at h; cases h
        | ok l => rw [hb] at h; cases h; exact hl
/-- a body's instructions: the class's fold and the model's run -/
theorem run_eq {A : mA} {E : tE} {L : List Nat} {g : mSigT} {b : Nat → Nat} {e : Nat} {hc : Bool} (hE : eqE E A L g) (hnd : hc = E.nd.isSome) (hC : ∀ m, E.nd = some m → (aZ A).length = m) (hb : ∀ j, j < e → b j < 256) : ∀ (l : List (Nat × mInsT)) (o : Option (List Nat)) (a z : Nat) (t : tT), mIns b e hc o a l z → (∀ ow, o = some ow → t.2.1.length = ow.length + 1) → t.2.2 = true → ((cFold E l (true, t)).1 = true ↔ tRun A L g l t = .ok ()) := by
  intro l
  induction l with
  | nil => intro o a z t _ _ _; exact ⟨fun _ => rfl, fun _ => rfl⟩
  | cons y l ih =>
    intro o a z t hI hf ht
    cases o with
    | none => exact absurd hI.1 (by intro q; cases q)
    | some ow =>
      obtain ⟨k, r, l', hk, h1, h2, hO, hl, hrest⟩ := mIns_cons hI
      cases hl
      have hf := hf ow rfl
      have h256 := mOct_lt hb hk
      obtain ⟨x1, x2⟩ := mOps_op (x := r.1) (z := r.2) h256 hO
      have hIs : mIs b e E.nd ow a = .ok r := by
        rw [ma_is hb, hk]
        show (if (2 ≤ k.1 ∧ k.1 ≤ 4) ∧ ow.length = 60 then .error (4, a) else if k.1 = 5 ∧ ¬ ow.head? = some 4 then .error (1, a) else mOps b e E.nd.isSome k.1 a k.2 : mE (mInsT × Nat)) = .ok r
        rw [if_neg h1, if_neg h2, ← hnd]; exact hO
      obtain ⟨hop, hx⟩ := mIs_op hIs
      have hlk := mIs_lk hIs
      have hd : r.1.1 = 264 ∨ r.1.1 = 265 → decide (∃ m, E.nd = some m ∧ r.1.2.1 < m) = decide (r.1.2.1 < (aZ A).length) := fun w => by
        cases hn : E.nd with
        | none =>
          exfalso
          unfold mLk at hlk
          rw [hn, if_neg (by omega), if_neg (by omega), if_pos ⟨w, rfl⟩] at hlk
          cases hlk
        | some m =>
          rw [hC m hn]
          exact decide_eq_decide.2 ⟨fun ⟨m', e1, e2⟩ => by cases e1; exact e2, fun e2 => ⟨m, rfl, e2⟩⟩
      have hF : ¬ t.2.1 = [] := fun w => by rw [w] at hf; cases hf
      have hs := ma_step hE r.1.1 r.1.2.1 r.1.2.2 t ht hF hop hx hd
      have fr := step_fr (x := r.1) (z := r.2) h256 hO A L g t ow hf h2
      have et : (t.1, t.2.1, true) = t := by rw [← ht]
      have e2 : tRun A L g ((a, r.1) :: l) t = ((mMust ((tStep A L g r.1 t).2.2 = true) a).bind fun _ => tRun A L g l (tStep A L g r.1 t)) := by
        show ((mMust ((tStep A L g r.1 (t.1, t.2.1, true)).2.2 = true) a).bind fun _ => tRun A L g l (tStep A L g r.1 (t.1, t.2.1, true))) = _
        rw [et]
      rw [e2, bU_iff, mMust_iff]
      show (cFold E l (true && (cStep E r.1.1 r.1.2.1 r.1.2.2 t).2.2, tTurn r.1.1 r.1.2.1 (cStep E r.1.1 r.1.2.1 r.1.2.2 t))).1 = true ↔ _
      have efl : (cStep E r.1.1 r.1.2.1 r.1.2.2 t).2.2 = (tStep A L g r.1 t).2.2 := by rw [← tTurn_fl r.1.1 r.1.2.1]; exact hs.1
      by_cases q : (tStep A L g r.1 t).2.2 = true
      · rw [efl, q]
        have est : tTurn r.1.1 r.1.2.1 (cStep E r.1.1 r.1.2.1 r.1.2.2 t) = tStep A L g r.1 t := hs.2 (by rw [hs.1]; exact q)
        rw [est]
        have := ih (mNx k.1 ow) r.2 z (tStep A L g r.1 t) hrest (fun o' ho => by
          have f2 := fr.2
          rw [ho] at f2
          exact f2) q
        exact ⟨fun w => ⟨rfl, this.1 w⟩, fun w => this.2 w.2⟩
      · have qf : (tStep A L g r.1 t).2.2 = false := by simpa using q
        rw [efl, qf, cFold_off rfl]
        exact ⟨fun w => (by cases w), fun w => (by cases w.1)⟩
theorem bd_sig {A : mA} {i : Nat} (hG : nG A) (hi : i < (aF A).length) : bdSg (eA A) (bNo A i) = some ((aS A).getD ((aF A).getD i (0, 0)).2 ([], 0)) := by
  unfold bdSg bNo
  have e1 : (eA A).L[(kI 0 (aI A)).length + i]? = some ((aF A).getD i (0, 0)).2 := by
    show (fnL A)[(kI 0 (aI A)).length + i]? = _
    unfold fnL
    rw [List.getElem?_append_right (by rw [List.length_map]; omega), List.length_map, List.getElem?_map, show (kI 0 (aI A)).length + i - (kI 0 (aI A)).length = i by omega, getD_of (d := ((0, 0) : mFnT)) hi]
    rfl
  rw [e1]
  exact getD_of (hG.2 i hi)
theorem allB_iff {A : mA} : ∀ (l : List mBdT) (i : Nat), allB A i l = true ↔ ∀ j x, l[j]? = some x → (bdS A (i + j) && bdR A (i + j) x) = true := by
  intro l
  induction l with
  | nil => intro i; exact ⟨fun _ j x h => by simp at h, fun _ => rfl⟩
  | cons y r ih =>
    intro i
    show ((bdS A i && bdR A i y) && allB A (i + 1) r) = true ↔ _
    rw [Bool.and_eq_true, ih]
    constructor
    · rintro ⟨h1, h2⟩ j x hx
      cases j with
      | zero => cases hx; exact h1
      | succ j => have := h2 j x hx; rw [show i + 1 + j = i + (j + 1) by omega] at this; exact this
    · exact fun h => ⟨h 0 y rfl, fun j x hx => by have := h (j + 1) x hx; rw [show i + (j + 1) = i + 1 + j by omega] at this; exact this⟩
theorem ww_bd {A : mA} {b : Nat → Nat} {E : Nat} (hG : nG A) (hD : (aD A).length = (aF A).length) (hM : ∀ x ∈ aD A, ∃ e a r, e ≤ E ∧ mBd b e (aC A).isSome a = .ok (x, r)) (hC : ∀ m, aC A = some m → (aZ A).length = m) (hb : ∀ j, j < E → b j < 256) : ¬ wBd A ↔ ∀ i, i < (aF A).length → mBod A i = .ok () := by
  have one : ∀ i x, (aD A)[i]? = some x → bdS A i = true ∧ (bdR A i x = true ↔ mBod A i = .ok ()) := fun i x hx => by
    have hi : i < (aF A).length := by rw [← hD]; exact get_len hx
    have hs := bd_sig hG hi
    have hg : bdG (eA A) (bNo A i) = (aS A).getD ((aF A).getD i (0, 0)).2 ([], 0) := by unfold bdG; rw [hs]; rfl
    refine ⟨by unfold bdS; rw [hs]; rfl, ?_⟩
    unfold mBod bdR
    rw [get_D (d := bd0) hx, ← hg]
    obtain ⟨e, a, r, he, hbd⟩ := hM x (List.mem_of_getElem? hx)
    have hae : a ≤ e := by
      unfold mBd at hbd
      cases hu : mU b e a with
      | error q => rw [hu] at hbd; cases hbd
      | ok u => exact Nat.le_of_lt (mU_a hu)
    obtain ⟨n, z, h1, h2, h3, h4, h5, h6, h7⟩ := mBd_facts hbd
    have h5 := h5 hae
    have hE : eqE (bdE (eA A) (bNo A i) x) A (bdL (bdG (eA A) (bNo A i)) x) (bdG (eA A) (bNo A i)) := ⟨rfl, rfl, rfl, (nFun_k A).symm, fun k hk => ⟨fnL_at hk, hG.1 k hk⟩, (nGlo_k A).symm, fun k hk => get_D (glL_at hk), hasK_1 A, hasK_2 A, rfl⟩
    exact run_eq hE rfl hC (fun j hj => hb j (by omega)) _ _ _ _ (bdT (bdG (eA A) (bNo A i)).2) h3 (fun ow ho => by cases ho; rfl) rfl
  unfold wBd
  rw [wL_no]
  constructor
  · intro h
    have all : ∀ n i, i < n → ∀ x, (aD A)[i]? = some x → bdR A i x = true := by
      intro n
      induction n with
      | zero => intro i hi; exact absurd hi (Nat.not_lt_zero _)
      | succ n ih =>
        intro i hi x hx
        have hb := h i x hx
        have hlt := get_len hx
        have el : ((aD A).take i).length = i := by rw [List.length_take]; omega
        unfold bdBad at hb
        rw [el] at hb
        cases hR : bdR A i x with
        | true => rfl
        | false =>
          exfalso
          refine hb ⟨(allB_iff _ _).2 (fun j y hy => ?_), (one i x hx).1, hR⟩
          have hj : j < i := by have := get_len hy; rw [el] at this; exact this
          rw [List.getElem?_take_of_lt hj] at hy
          rw [Nat.zero_add, (one j y hy).1, ih j (by omega) y hy]
          rfl
    intro i hi
    have hx := getD_of (l := aD A) (d := bd0) (show i < (aD A).length by omega)
    exact (one i _ hx).2.1 (all (i + 1) i (by omega) _ hx)
  · intro h i x hx hb
    have hlt := get_len hx
    have el : ((aD A).take i).length = i := by rw [List.length_take]; omega
    unfold bdBad at hb
    rw [el] at hb
    rw [(one i x hx).2.2 (h i (by omega))] at hb
    cases hb.2.2
/-- nothing is noted as wrong just if the module means something -/
theorem ww_all {A : mA} {b : Nat → Nat} {E : Nat} (hM : mFrom b E A) (hD : (aD A).length = (aF A).length) (hC : ∀ m, aC A = some m → (aZ A).length = m) (hb : ∀ j, j < E → b j < 256) : ¬ wW b E A ↔ mMeans b E A = .ok () := by
  have sp : ¬ wW b E A ↔ (¬ wIm A ∧ ¬ wTb A ∧ ¬ wMm A) ∧ ¬ wFn A ∧ ¬ wGl b E A ∧ ¬ wEx b A ∧ ¬ wSt A ∧ ¬ wEl b E A ∧ ¬ wBd A ∧ ¬ wDt b E A := by
    unfold wW
    simp only [not_or]
    exact ⟨fun ⟨a1, a2, a3, a4, a5, a6, a7, a8, a9, a10⟩ => ⟨⟨a1, a3, a4⟩, a2, a5, a6, a7, a8, a9, a10⟩, fun ⟨⟨a1, a3, a4⟩, a2, a5, a6, a7, a8, a9, a10⟩ => ⟨a1, a2, a3, a4, a5, a6, a7, a8, a9, a10⟩⟩
  rw [sp, mMeans_iff, ww_1, ww_fn]
  constructor
  · rintro ⟨⟨h1, h3, h4⟩, h2, h5, h6, h7, h8, h9, h10⟩
    have hG : nG A := ⟨mSigs_of h1 h2, fun i hi => by
      have := h2 i hi
      unfold mFu at this
      exact mMust_ok this⟩
    exact ⟨h1, h2, h3, h4, ww_gl.1 h5, (ww_ex h3 h4).1 h6, ww_st.1 h7, ww_el.1 h8, ww_dt.1 h10, (ww_bd hG hD hM.2.2.2 hC hb).1 h9⟩
  · rintro ⟨h1, h2, h3, h4, h5, h6, h7, h8, h9, h10⟩
    have hG : nG A := ⟨mSigs_of h1 h2, fun i hi => by
      have := h2 i hi
      unfold mFu at this
      exact mMust_ok this⟩
    exact ⟨⟨h1, h3, h4⟩, h2, ww_gl.2 h5, (ww_ex h3 h4).2 h6, ww_st.2 h7, ww_el.2 h8, (ww_bd hG hD hM.2.2.2 hC hb).2 h10, ww_dt.2 h9⟩
