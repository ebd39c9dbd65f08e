/-! the reference's check of a body -/
theorem mGrp_ty {b : Nat → Nat} {e : Nat} : ∀ (n s : Nat) (l : List (Nat × Nat)) (a : Nat) (r : List (Nat × Nat) × Nat), mGrp b e n s l a = .ok r → (∀ x ∈ l, x.2 ≤ 1) → ∀ x ∈ r.1, x.2 ≤ 1 := by
  intro n
  induction n with
  | zero => intro s l a r h hl; cases h; exact hl
  | succ n ih =>
    intro s l a r h hl
    obtain ⟨u, t, _, ht, _, h2⟩ := mGrpS h
    refine ih _ _ _ r h2 (fun x hx => ?_)
    rcases List.mem_append.1 hx with hx | hx
    · exact hl x hx
    · rw [List.mem_singleton.1 hx]; exact (mType_in ht).2.2.1
theorem flat_ty {l : List (Nat × Nat)} (h : ∀ x ∈ l, x.2 ≤ 1) : ∀ x ∈ flat l, x ≤ 1 := by
  intro x hx
  unfold flat at hx
  obtain ⟨g, hg, hx⟩ := List.mem_flatMap.1 hx
  rw [(List.mem_replicate.1 hx).2]
  exact h g hg
theorem mBd_facts {b : Nat → Nat} {e a : Nat} {hc : Bool} {x : mBdT} {r : Nat} (h : mBd b e hc a = .ok (x, r)) : ∃ n z, mU b x.2.2.1 x.1 = .ok n ∧ mGrp b x.2.2.1 n.1 0 [] n.2 = .ok (x.2.2.2.1, x.2.1) ∧ mIns b x.2.2.1 hc (some []) x.2.1 x.2.2.2.2 z ∧ x.1 ≤ x.2.2.1 ∧ (a ≤ e → x.2.2.1 ≤ e) ∧ x.2.1 ≤ x.2.2.1 ∧ x.2.2.1 ≤ z := by
  unfold mBd at h
  cases hz : mU b e a with
  | error q => rw [hz] at h; cases h
  | ok z =>
    rw [hz] at h
    have h : (if e - z.2 < z.1 then .error (1, a)
  else (mU b (z.2 + z.1) z.2).bind fun n => (mGrp b (z.2 + z.1) n.1 0 [] n.2).bind fun g => (mCode b (z.2 + z.1) hc (z.2 + z.1 + 1 - g.2) [] [] g.2).bind fun c =>
    if c.2 < z.2 + z.1 then .error (1, c.2) else (.ok ((z.2, g.2, z.2 + z.1, g.1, c.1), z.2 + z.1) : mE (mBdT × Nat))) = .ok (x, r) := h
    by_cases q : e - z.2 < z.1
    · rw [if_pos q] at h; cases h
    rw [if_neg q] at h
    cases hn : mU b (z.2 + z.1) z.2 with
    | error q => rw [hn] at h; cases h
    | ok n =>
      rw [hn] at h
      have h : ((mGrp b (z.2 + z.1) n.1 0 [] n.2).bind fun g => (mCode b (z.2 + z.1) hc (z.2 + z.1 + 1 - g.2) [] [] g.2).bind fun c =>
    if c.2 < z.2 + z.1 then .error (1, c.2) else (.ok ((z.2, g.2, z.2 + z.1, g.1, c.1), z.2 + z.1) : mE (mBdT × Nat))) = .ok (x, r) := h
      cases hg : mGrp b (z.2 + z.1) n.1 0 [] n.2 with
      | error q => rw [hg] at h; cases h
      | ok g =>
        rw [hg] at h
        have h : ((mCode b (z.2 + z.1) hc (z.2 + z.1 + 1 - g.2) [] [] g.2).bind fun c =>
    if c.2 < z.2 + z.1 then .error (1, c.2) else (.ok ((z.2, g.2, z.2 + z.1, g.1, c.1), z.2 + z.1) : mE (mBdT × Nat))) = .ok (x, r) := h
        cases hc2 : mCode b (z.2 + z.1) hc (z.2 + z.1 + 1 - g.2) [] [] g.2 with
        | error q => rw [hc2] at h; cases h
        | ok c =>
          rw [hc2] at h
          have h : (if c.2 < z.2 + z.1 then .error (1, c.2) else (.ok ((z.2, g.2, z.2 + z.1, g.1, c.1), z.2 + z.1) : mE (mBdT × Nat))) = .ok (x, r) := h
          by_cases q2 : c.2 < z.2 + z.1
          · rw [if_pos q2] at h; cases h
          rw [if_neg q2] at h
          cases h
          have hgp : g.2 ≤ z.2 + z.1 := by
            by_cases q3 : g.2 ≤ z.2 + z.1
            · exact q3
            · rw [show z.2 + z.1 + 1 - g.2 = 0 by omega] at hc2; cases hc2
          exact ⟨n, c.2, hn, hg, ⟨_, hc2⟩, Nat.le_add_right _ _, fun ha => by have := (mU_in hz ha).2; show z.2 + z.1 ≤ e; omega, hgp, by show z.2 + z.1 ≤ c.2; omega⟩
def tRun (A : mA) (L : List Nat) (g : mSigT) : List (Nat × mInsT) → tT → mE Unit
  | [], _ => .ok ()
  | p :: r, t => (mMust ((tStep A L g p.2 (t.1, t.2.1, true)).2.2 = true) p.1).bind fun _ => tRun A L g r (tStep A L g p.2 (t.1, t.2.1, true))
def bdL (g : mSigT) (x : mBdT) : List Nat := g.1 ++ flat x.2.2.2.1
def tBody (A : mA) (g : mSigT) (x : mBdT) : mE Unit := tRun A (bdL g x) g x.2.2.2.2 (tFrame 0 g.2 g.2 ([], [], true))
def bd0 : mBdT := (0, 0, 0, [], [])
theorem lK.f {σ s : zS} (h : lK σ s) : mF 99 σ s := fun c i h0 h9 => h c i (fun q => h9 (by rw [q]; rfl)) (fun q => by
  obtain ⟨rfl, q⟩ := q
  rcases q with rfl | rfl
  · exact h0 rfl
  · exact h9 rfl)
theorem mGrp_le {b : Nat → Nat} {e : Nat} : ∀ (n s : Nat) (l : List (Nat × Nat)) (a : Nat) (r : List (Nat × Nat) × Nat), mGrp b e n s l a = .ok r → a ≤ e → r.2 ≤ e := by
  intro n
  induction n with
  | zero => intro s l a r h ha; cases h; exact ha
  | succ n ih =>
    intro s l a r h ha
    obtain ⟨u, t, hu, ht, _, h2⟩ := mGrpS h
    have u1 := mU_in hu ha
    have t1 := mType_in ht
    exact ih _ _ _ r h2 (by omega)
theorem sp_checkBody {τ σ : zS} {B : Nat} {b : Nat → Nat} {e E k z : Nat} {hc : Bool} {A : mA} {K : zS → Prop} {QX : zS → Prop} (hs : mSu τ σ B b e) (hr : mRep σ B A) (hF : ∀ f, f < nFun A → funSig A f < (aS A).length)
    (hk : k < (aF A).length) (hkD : k < (aD A).length) (hx : ∃ a r, a ≤ E ∧ E ≤ 16000 ∧ mBd b E hc a = .ok ((aD A).getD k bd0, r)) (hfs : ((aF A).getD k (0, 0)).2 < (aS A).length)
    (h : mW (tBody A ((aS A).getD ((aF A).getD k (0, 0)).2 ([], 0)) ((aD A).getD k bd0)) (fun _ => ∀ s' e', mSu τ s' B b e' → mF 99 σ s' → K s') (mEr τ B QX)) : zCT zZM zmX10_checkBody [.ref 0, .ref 1, .int (nI k)] σ (zQv K) QX := by
  obtain ⟨a, r, haE, hE, hx⟩ := hx
  have hF3 := hr.2.2.1
  have hk64 : k < 64 := by have := hF3.2.1; omega
  have hf := hF3.2.2 k _ (getD_of (d := ((0, 0) : mFnT)) hk)
  have hD := hr.2.2.2.2.2.2.2.2.2.2.1.2.2 k _ hk64 (getD_of (d := bd0) hkD)
  have hS := mRep_S hr hfs
  obtain ⟨n, z, hn, hg, hI, hxe, heE, hgp, _⟩ := mBd_facts hx
  have heE := heE haE
  generalize (aD A).getD k bd0 = x at *
  generalize hgg : (aS A).getD ((aF A).getD k (0, 0)).2 ([], 0) = g at *
  have hsig := hS.1
  have hL : ∀ i, i < (bdL g x).length → (bdL g x).getD i 0 ≤ 1 := by
    intro i hi
    have hm : (bdL g x).getD i 0 ∈ bdL g x := by
      rw [List.getD_eq_getElem?_getD, List.getElem?_eq_getElem hi]; exact List.getElem_mem _
    rcases List.mem_append.1 hm with hm | hm
    · exact hsig.2.1 _ hm
    · exact flat_ty (mGrp_ty _ _ _ _ _ hg (fun y hy => absurd hy (List.not_mem_nil))) _ hm
  refine rX10_checkBody (fun m x3 s => ∃ σ1 G t rest o p, m = List.length rest ∧ x3 = nI (sigC g) ∧ lR σ1 (bdL g x) ∧ mRep σ1 B A ∧ mF 99 σ σ1 ∧ tSg τ σ1 s B b x.2.2.1 p G t ∧ mIns b x.2.2.1 hc o p rest z ∧ (match o with
      | none => t.2.1 = []
      | some ow => t.2.1.length = ow.length + 1) ∧ t.1.length ≤ p ∧ mW (tRun A (bdL g x) g rest t) (fun _ => ∀ s' e', mSu τ s' B b e' → mF 99 σ s' → K s') (mEr τ B QX)) ?_ ?_
  · rintro m x3 s ⟨σ1, G, t, rest, o, p, rfl, rfl, hlr, hr1, hF1, hs1, hI1, ho, hp, hw⟩
    unfold PX10_checkBody_57
    have g3 : s.1 0 28 = nI t.2.1.length := hs1.2.2.2.2.1
    have g4 : t.2.1.length ≤ 61 := hs1.2.2.2.2.2.1
    have c0 : nI t.2.1.length ≤ (0 : Int32) ↔ t.2.1.length ≤ 0 := nI_leI (b := 0) (by omega) (by decide)
    rw [g3, c0]
    cases o with
    | none =>
      have ho : t.2.1 = [] := ho
      obtain ⟨rfl, rfl⟩ := hI1
      refine ⟨fun _ => ?_, fun q => absurd (by rw [ho]; exact Nat.le_refl 0) q⟩
      have hw : ∀ s' e', mSu τ s' B b e' → mF 99 σ s' → K s' := hw
      exact hw s _ hs1.1.u (hF1.trans hs1.2.1.f)
    | some ow =>
      have ho : t.2.1.length = ow.length + 1 := ho
      refine ⟨fun q => absurd q (by omega), fun _ => ⟨Or.inr rfl, fun s1 e1 => ?_⟩⟩
      obtain ⟨u, r, l', hu, h60, h5, hO, rfl, hI2⟩ := mIns_cons hI1
      have u1 := mOct_in hu
      have hs2 : tSt τ σ1 s1 B b x.2.2.1 p (t.1, t.2.1, true) := by rw [e1]; exact hs1.good true
      have hat : s.1 0 12 = nI (B + p) := hs1.1.2.2.1
      have he := hs1.1.2.2.2.2.2.1
      have hub : u.1 < 256 := by rw [u1.2]; exact (hs1.1.2.1 p (by omega)).1
      have hu2 : u.2 = p + 1 := by rw [u1.2]
      rw [hat]
      refine sp_octet hs2.1 ?_
      rw [hu, mW_ok]
      have hs3 := hs2.at (a' := u.2) (by omega)
      have hin := mW_get (mOps_in (b := b) (e := x.2.2.1) (op := u.1) (fr := p) (a := u.2) (hc := hc) (by omega)) hO
      have hf3 : ¬ (t.1, t.2.1, true).2.1 = ([] : List tF) := fun q => by have q : t.2.1 = [] := q; rw [q] at ho; cases ho
      have hst := step_fr hub hO A (bdL g x) g (t.1, t.2.1, true) ow ho h5
      have hop := mOps_op hub hO
      have c252 : nI u.1 = (252 : Int32) ↔ u.1 = 252 := nI_eq (b := 252) (by omega) (by decide)
      have fin : ∀ s4, tSt τ σ1 s4 B b x.2.2.1 r.2 (tStep A (bdL g x) g r.1 (t.1, t.2.1, true)) → zCT zZM zmX10_must [.ref 0, .int (s4.1 0 31), .int (nI (B + p))] s4 (zQv (fun s5 => ∃ n', zlt n' (some ((p, r.1) :: l').length) ∧ ∃ σ1 G t rest o p, n' = List.length rest ∧ nI (sigC g) = nI (sigC g) ∧ lR σ1 (bdL g x) ∧ mRep σ1 B A ∧ mF 99 σ σ1 ∧ tSg τ σ1 s5 B b x.2.2.1 p G t ∧ mIns b x.2.2.1 hc o p rest z ∧ (match o with
      | none => t.2.1 = []
      | some ow => t.2.1.length = ow.length + 1) ∧ t.1.length ≤ p ∧ mW (tRun A (bdL g x) g rest t) (fun _ => ∀ s' e', mSu τ s' B b e' → mF 99 σ s' → K s') (mEr τ B QX))) QX := by
        intro s4 hs4
        refine sp_must (c := (tStep A (bdL g x) g r.1 (t.1, t.2.1, true)).2.2 = true) hs4.1.1 (by rw [hs4.g]; simp) (fun _ => rfl) ?_
        have hw : mW ((mMust ((tStep A (bdL g x) g r.1 (t.1, t.2.1, true)).2.2 = true) p).bind fun _ => tRun A (bdL g x) g l' (tStep A (bdL g x) g r.1 (t.1, t.2.1, true))) (fun _ => ∀ s' e', mSu τ s' B b e' → mF 99 σ s' → K s') (mEr τ B QX) := hw
        rw [mW_bind] at hw
        refine mW_mono hw (fun _ _ hw => ?_) (fun k p _ h => h)
        exact ⟨l'.length, Nat.lt_succ_self _, σ1, _, _, l', mNx u.1 ow, r.2, rfl, rfl, hlr, hr1, hF1, hs4.sg, hI2, hst.2, by have := hst.1; have := hin.1; show (tStep A (bdL g x) g r.1 (t.1, t.2.1, true)).1.length ≤ r.2; have h8 : (tStep A (bdL g x) g r.1 (t.1, t.2.1, true)).1.length ≤ t.1.length + 1 := hst.1; omega, hw⟩
      rw [c252]
      refine ⟨fun q => ?_, fun q => ?_⟩
      · rw [q] at hO
        refine sp_checkMany hr1 hs3 hf3 (by show t.1.length < 16000; omega) hO (fun s4 hs4 => ?_)
        refine fin s4 ?_
        unfold tStep
        rw [if_pos (by have := hop.2 q; omega)]
        exact hs4
      · refine sp_checkOne hs3 hr1 hF hlr hL hsig hub q hf3 (by show t.1.length < 16000; omega) (fun q2 => ?_) hO (fun s4 hs4 => ?_)
        · show t.2.1.length < 61
          have : ¬ ow.length = 60 := fun z => h60 ⟨q2, z⟩
          omega
        · refine fin s4 ?_
          unfold tStep
          rw [if_neg (by rw [hop.1 q]; omega)]
          exact hs4
  · unfold PX10_checkBody_0
    have fs64 : ((aF A).getD k (0, 0)).2 < 64 := by have := hS.2.2.1; omega
    rw [nI_clamp (by omega), hf.2.2.2, lN_i, nI_clamp (by omega), hS.2.1, hD.2.2.2.2.2]
    refine ⟨vp_in_nI (by omega) (by decide), vp_in_nI (by omega) (by decide), vp_in_nI (by omega) (by decide), fun s1 e1 => ⟨vp_in_nI (by omega) (by decide), ?_⟩⟩
    have h1 : mSu τ s1 B b x.2.2.1 := by rw [e1]; exact hs.end (by omega)
    have r1 : mRep s1 B A := by
      refine mRep_mF hr ?_
      rw [e1]; exact mF.rf.i _ (Or.inl rfl)
    have f1 : mF 99 σ s1 := by rw [e1]; exact mF.rf.i _ (Or.inl rfl)
    have e52 : s1.1 52 k = nI (B + x.1) := by rw [e1, zI1, if_neg (by omega)]; exact hD.2.2.2.1
    rw [e52]
    refine sp_readLocals (G := (0, x.2.1)) h1 hsig hxe hn hg (fun s2 hs2 hk2 hl2 s3 e3 s4 e4 => ?_)
    have f2 := f1.trans hk2.f
    have r2 : mRep s2 B A := mRep_mF hr f2
    refine sp_resultOf hsig (sp_resultOf hsig ?_)
    have h4 : tSg τ s2 s4 B b x.2.2.1 x.2.1 (s4.1 0 31) ([], [], true) := by
      refine ⟨?_, ?_, ?_, Nat.zero_le _, ?_, Nat.zero_le _, rfl, trivial, trivial⟩
      · rw [e4, e3]; exact (hs2.i _ (by unfold kpd; omega) (by omega)).i _ (by unfold kpd; omega) (by omega)
      · rw [e4, e3]; exact (yK.rf.i _ (by unfold tyC; omega)).i _ (by unfold tyC; omega)
      · rw [e4, zI1, if_neg (by omega), e3, zI1, if_pos ⟨rfl, rfl⟩]; rfl
      · rw [e4, zI1, if_pos ⟨rfl, rfl⟩]; rfl
    refine sp_openFrameG (w := 0) h4 (by show (0 : Nat) < 61; omega) (by decide) hsig.2.2 hsig.2.2 (fun s9 hs9 => ?_)
    exact ⟨x.2.2.2.2.length, trivial, s2, _, _, x.2.2.2.2, some [], x.2.1, rfl, rfl, hl2, r2, f2, hs9, hI, rfl, Nat.zero_le _, h⟩
