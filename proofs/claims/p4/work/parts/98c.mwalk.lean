/-! the latest module's functions: their instructions one by one, their locals -/
theorem drop_cons {α : Type} {l : List α} {i : Nat} {x : α} {r : List α} {d : α} (h : l.drop i = x :: r) : i < l.length ∧ l.getD i d = x ∧ l.drop (i + 1) = r := by
  have hi : i < l.length := by
    by_cases q : i < l.length
    · exact q
    · rw [List.drop_eq_nil_of_le (by omega)] at h; cases h
  have hd := List.drop_eq_getElem_cons hi
  rw [hd] at h
  cases h
  exact ⟨hi, by rw [List.getD_eq_getElem?_getD, List.getElem?_eq_getElem hi]; rfl, rfl⟩
theorem own_facts {σ : zS} {A : mA} {k Br : Nat} {b : Nat → Nat} {E : Nat} (hO : ownAt σ A k Br b E) : ∃ n z, mU b ((aD A).getD k bd0).2.2.1 ((aD A).getD k bd0).1 = .ok n ∧ mGrp b ((aD A).getD k bd0).2.2.1 n.1 0 [] n.2 = .ok (((aD A).getD k bd0).2.2.2.1, ((aD A).getD k bd0).2.1) ∧ mIns b ((aD A).getD k bd0).2.2.1 (aC A).isSome (some []) ((aD A).getD k bd0).2.1 ((aD A).getD k bd0).2.2.2.2 z ∧ ((aD A).getD k bd0).1 ≤ ((aD A).getD k bd0).2.2.1 ∧ ((aD A).getD k bd0).2.2.1 ≤ 16000 ∧ ((aD A).getD k bd0).2.1 ≤ ((aD A).getD k bd0).2.2.1 ∧ ((aD A).getD k bd0).2.2.1 ≤ z ∧
    σ.1 95 k = nI (Br + ((aD A).getD k bd0).1) ∧ σ.1 96 k = nI (Br + ((aD A).getD k bd0).2.1) ∧ σ.1 97 k = nI (Br + ((aD A).getD k bd0).2.2.1) ∧ σ.2 74 k = lN ((aF A).getD k (0, 0)).2 ∧ ((aF A).getD k (0, 0)).2 < (aS A).length ∧ (aS A).length ≤ 64 ∧ σ.1 62 ((aF A).getD k (0, 0)).2 = nI (sigC ((aS A).getD ((aF A).getD k (0, 0)).2 ([], 0))) ∧ sigOk ((aS A).getD ((aF A).getD k (0, 0)).2 ([], 0)) := by
  obtain ⟨hk, h64, hkD, hR, hE, hBr, hby, hM, hg⟩ := hO
  obtain ⟨hX, -⟩ := hR
  obtain ⟨e, a, r, he, hb⟩ := hM.2.2.2 _ (getD_mem (d := bd0) hkD)
  have hae := mBd_a hb
  obtain ⟨n, z, f1, f2, f3, f4, f5, f6, f7⟩ := mBd_facts hb
  have h10 := hX.2.2.2.2.2.2.2.2.1.2.2 k _ (by omega) (getD_of (d := bd0) hkD)
  have h3 := hX.2.2.1.2.2 k _ (getD_of (d := ((0, 0) : mFnT)) hk)
  have hs := hg.2 k hk
  have h1 := hX.1
  exact ⟨n, z, f1, f2, f3, f4, by have := f5 hae; omega, f6, f7, h10.2.2.2.1, h10.2.2.2.2.1, h10.2.2.2.2.2, h3.2.2.2, hs, h1.2.1, h1.2.2.2 _ hs, h1.2.2.1 _ (getD_mem hs)⟩
theorem mIns_len {b : Nat → Nat} {e z : Nat} {hc : Bool} : ∀ (l : List (Nat × mInsT)) (o : Option (List Nat)) (a : Nat), a ≤ e → mIns b e hc o a l z → a + l.length ≤ z ∧ z ≤ e := by
  intro l
  induction l with
  | nil =>
    intro o a ha h
    cases o with
    | none => rw [← h.2]; exact ⟨Nat.le_refl _, ha⟩
    | some ow =>
      obtain ⟨k, r, l', -, -, -, -, hl, -⟩ := mIns_cons h
      cases hl
  | cons x l ih =>
    intro o a ha h
    cases o with
    | none => cases h.1
    | some ow =>
      obtain ⟨k, r, l', hu, -, -, hO, hl, hI⟩ := mIns_cons h
      cases hl
      have u1 := mOct_in hu
      have hu2 : k.2 = a + 1 := by rw [u1.2]
      have hin := mW_get (mOps_in (b := b) (e := e) (op := k.1) (fr := a) (a := k.2) (hc := hc) (by omega)) hO
      have := ih _ _ hin.2 hI
      simp only [List.length_cons]
      omega
theorem sp_walked {σ : zS} {A : mA} {k Br : Nat} {b : Nat → Nat} {E : Nat} {to : Int32} {K : Int32 → zS → Prop} {QX : zS → Prop} (hO : ownAt σ A k Br b E)
    (hend : (∀ j, j < ((aD A).getD k bd0).2.2.2.2.length → ¬ to = nI j) → ((aD A).getD k bd0).2.2.2.2.length ≤ 16000 → ∀ s, mKeep σ s → s.1 0 8 = nI ((aD A).getD k bd0).2.2.2.2.length → K (-1) s)
    (hat : ∀ j, j < ((aD A).getD k bd0).2.2.2.2.length → ((aD A).getD k bd0).2.2.2.2.length ≤ 16000 → to = nI j → ∀ s, mKeep σ s → K (nI (((aD A).getD k bd0).2.2.2.2.getD j ins0).2.1) s) : zCT zZM zmX10_walked [.ref 0, .int (nI k), .int to] σ (zQi K) QX := by
  obtain ⟨n, z, f1, f2, f3, f4, f5, f6, f7, g1, g2, g3, g4, g5, g6, g7, g8⟩ := own_facts hO
  obtain ⟨hk, h64, hkD, hR, hE, hBr, hby, hM, hg⟩ := hO
  have hlen := mIns_len _ _ _ f6 f3
  generalize (aD A).getD k bd0 = x at *
  refine rX10_walked (fun m x2 s => ∃ i p o, m + i = x.2.2.2.2.length ∧ x2 = to ∧ mSt σ s Br b x.2.2.1 p ∧ s.1 0 18 = bI true ∧ s.1 0 8 = nI i ∧ i ≤ p ∧ mIns b x.2.2.1 (aC A).isSome o p (x.2.2.2.2.drop i) z ∧ ∀ j, j < i → ¬ to = nI j) ?_ ?_
  · rintro m x2 s ⟨i, p, o, hm, rfl, hs, h18, h8, hip, hI, hno⟩
    have hpe := hs.2.2.2.2.1
    unfold PX10_walked_36
    have ce : nI (Br + x.2.2.1) ≤ nI (Br + p) ↔ x.2.2.1 ≤ p := by rw [nI_leI (by omega) (by omega)]; omega
    rw [hs.2.2.2.1, hs.2.2.1, ce]
    cases o with
    | none =>
      obtain ⟨hl, rfl⟩ := hI
      have hil : i = x.2.2.2.2.length := by
        have : (x.2.2.2.2.drop i).length = 0 := by rw [hl]; rfl
        rw [List.length_drop] at this
        omega
      refine ⟨fun _ => ?_, fun q => absurd f7 q⟩
      subst hil
      exact hend hno (by omega) s hs.1 h8
    | some ow =>
      obtain ⟨u, r, l', hu, -, -, hO, hl, hI2⟩ := mIns_cons hI
      obtain ⟨d1, d2, d3⟩ := drop_cons (d := ins0) hl
      have u1 := mOct_in hu
      have hu2 : u.2 = p + 1 := by rw [u1.2]
      have hub : u.1 < 256 := by rw [u1.2]; exact (hs.2.1 p (by omega)).1
      have hop := mOps_op hub hO
      have hO2 := mOps_hc hO
      have hin := mW_get (mOps_in (b := b) (e := x.2.2.1) (op := u.1) (fr := p) (a := u.2) (hc := true) (by omega)) hO2
      refine ⟨fun q => absurd q (by omega), fun _ => ?_⟩
      refine sp_octet hs ?_
      rw [hu, mW_ok]
      have hs1 := hs.at (a' := u.2) (by omega)
      have h81 : (mAt s (Br + u.2)).1 0 8 = nI i := by rw [mAt, zI1, if_neg (by omega)]; exact h8
      have h181 : (mAt s (Br + u.2)).1 0 18 = bI true := by rw [mAt, zI1, if_neg (by omega)]; exact h18
      have c252 : nI u.1 = (252 : Int32) ↔ u.1 = 252 := nI_eq (b := 252) (by omega) (by decide)
      have go : ∀ s6, mSt σ s6 Br b x.2.2.1 u.2 → s6.1 0 18 = bI true → s6.1 0 8 = nI i → ¬ nI i = x2 → zCT zZM zmX10_operands [.ref 0, .int (nI u.1), .int (nI (Br + p))] s6 (zQv (fun s7 => ∀ s8 : zS, s8 = zsI s7 0 8 ((s7.1 0 8) + (1 : Int32)) → ∃ n', zlt n' (some m) ∧ ∃ i p o, n' + i = x.2.2.2.2.length ∧ x2 = x2 ∧ mSt σ s8 Br b x.2.2.1 p ∧ s8.1 0 18 = bI true ∧ s8.1 0 8 = nI i ∧ i ≤ p ∧ mIns b x.2.2.1 (aC A).isSome o p (x.2.2.2.2.drop i) z ∧ ∀ j, j < i → ¬ x2 = nI j)) QX := by
        intro s6 hs6 h186 h86 hne
        refine sp_operands hs6 h186 hub ?_
        rw [hO2, mW_ok]
        intro s8 e8
        have h87 : (mAt s6 (Br + r.2)).1 0 8 = nI i := by rw [mAt, zI1, if_neg (by omega)]; exact h86
        rw [h87, nI_1] at e8
        refine ⟨m - 1, by show m - 1 < m; omega, i + 1, r.2, mNx u.1 ow, by omega, rfl, ?_, ?_, ?_, by omega, by rw [d3]; exact hI2, fun j hj => ?_⟩
        · rw [e8]; exact (hs6.at hin.2).i _ (by unfold kpd; omega) (by omega)
        · rw [e8, zI1, if_neg (by omega), mAt, zI1, if_neg (by omega)]; exact h186
        · rw [e8, zI1, if_pos ⟨rfl, rfl⟩]
        · by_cases q : j = i
          · rw [q]; exact fun z => hne z.symm
          · exact hno j (by omega)
      rw [c252]
      refine ⟨fun q => ?_, fun q => ?_⟩
      · have hO3 := hO2
        rw [q] at hO3
        obtain ⟨n9, u9, p9, hn9, -, -, -, -, -, hx9, -⟩ := mOps_9 (x := r.1) (z := r.2) hO3
        have n91 := mU_in hn9 (by omega)
        refine sp_u hs1 ?_
        rw [hn9, mW_ok]
        intro s5 e5
        have e5 : s5 = mAt (mAt (mAt s (Br + u.2)) (Br + n9.2)) (Br + u.2) := by
          have ea : nI (Br + p) + (1 : Int32) = nI (Br + u.2) := by rw [nI_1, hu2]; rfl
          rw [e5, ea]; rfl
        have hs5 : mSt σ s5 Br b x.2.2.1 u.2 := by rw [e5]; exact (hs1.at n91.2).at (by omega)
        have h85 : s5.1 0 8 = nI i := by rw [e5, mAt_mAt, mAt, zI1, if_neg (by omega)]; exact h81
        have h185 : s5.1 0 18 = bI true := by rw [e5, mAt_mAt, mAt, zI1, if_neg (by omega)]; exact h181
        rw [h85]
        refine ⟨fun q2 => ?_, fun q2 => go s5 hs5 h185 h85 q2⟩
        have hh := hat i d1 (by omega) q2.symm s5 hs5.1
        rw [d2] at hh
        have e9 : (256 : Int32) + (lN n9.1).toInt32 = nI r.1.1 := by rw [lN_i, hx9]; exact nI_add 256 n9.1
        rw [e9]
        exact hh
      · rw [h81]
        refine ⟨fun q2 => ?_, fun q2 => go _ hs1 h181 h81 q2⟩
        have hh := hat i d1 (by omega) q2.symm _ hs1.1
        rw [d2] at hh
        have hx : r.1.1 = u.1 := hop.1 q
        have hh : K (nI r.1.1) (mAt s (Br + u.2)) := hh
        rw [hx] at hh
        exact hh
  · unfold PX10_walked_0
    have hv : vp_in (nI k) 64 := vp_in_nI (by omega) (by decide)
    rw [nI_clamp (by omega), g2]
    refine ⟨hv, fun s1 e1 => ⟨hv, fun s2 e2 => ⟨Or.inr rfl, fun s3 e3 s4 e4 => ?_⟩⟩⟩
    have g31 : s1.1 97 k = nI (Br + x.2.2.1) := by rw [e1, zI1, if_neg (by omega)]; exact g3
    rw [g31] at e2
    refine ⟨x.2.2.2.2.length, trivial, 0, x.2.1, some [], rfl, rfl, ⟨?_, fun j hj => ⟨(hby j hj).1, ?_⟩, ?_, ?_, f6, f5, hBr⟩, ?_, ?_, Nat.zero_le _, f3, fun j hj => absurd hj (Nat.not_lt_zero _)⟩
    · rw [e4, e3, e2, e1]
      exact (((mKeep.rf.i _ (by unfold kpd; omega)).i _ (by unfold kpd; omega)).i _ (by unfold kpd; omega)).i _ (by unfold kpd; omega)
    · rw [e4, zI1, if_neg (by omega), e3, zI1, if_neg (by omega), e2, zI1, if_neg (by omega), e1, zI1, if_neg (by omega)]; exact (hby j hj).2
    · rw [e4, zI1, if_neg (by omega), e3, zI1, if_neg (by omega), e2, zI1, if_neg (by omega), e1, zI1, if_pos ⟨rfl, rfl⟩]
    · rw [e4, zI1, if_neg (by omega), e3, zI1, if_neg (by omega), e2, zI1, if_pos ⟨rfl, rfl⟩]
    · rw [e4, zI1, if_neg (by omega), e3, zI1, if_pos ⟨rfl, rfl⟩]; rfl
    · rw [e4, zI1, if_pos ⟨rfl, rfl⟩]; rfl
theorem sp_instructions {σ : zS} {S : qS} {f : Int32} {K : Int32 → zS → Prop} {QX : zS → Prop} (hI : zInv σ S) (h : ∀ s, zInv s S → K (qInstr S f) s) : zCT zZM zmX10_instructions [.ref 0, .int f] σ (zQi K) QX := by
  refine rX10_instructions ?_
  unfold PX10_instructions_0
  unfold qInstr at h
  refine sp_isOwn hI (fun hn => ?_) (fun A k Br b E hf hA hO hs => ?_)
  · rw [hn] at h
    exact ⟨fun _ => h σ hI, fun q => absurd rfl q⟩
  · rw [hs] at h
    refine ⟨fun q => absurd q (by decide), fun _ => ?_⟩
    rw [hf]
    refine sp_walked hO (fun _ _ s hk h8 => ?_) (fun j _ hj z => ?_)
    · rw [h8]; exact h s (zInv_K hI hk)
    · exfalso
      have := congrArg Int32.toInt z
      rw [nI_toInt (by omega)] at this
      have h1 : (-1 : Int32).toInt = -1 := by decide
      omega
theorem sp_code {σ : zS} {S : qS} {f i : Int32} {K : Int32 → zS → Prop} {QX : zS → Prop} (hI : zInv σ S) (h : ∀ s, zInv s S → K (qCode S f i) s) : zCT zZM zmX10_code [.ref 0, .int f, .int i] σ (zQi K) QX := by
  refine rX10_code ?_
  unfold PX10_code_0
  unfold qCode at h
  refine sp_isOwn hI (fun hn => ?_) (fun A k Br b E hf hA hO hs => ?_)
  · rw [hn] at h
    exact ⟨fun _ => h σ hI, fun q => absurd rfl q⟩
  · rw [hs] at h
    have h : ∀ s, zInv s S → K (if i < 0 ∨ nI ((aD A).getD k bd0).2.2.2.2.length ≤ i then -1 else nI (((aD A).getD k bd0).2.2.2.2.getD i.toNatClampNeg ins0).2.1) s := h
    refine ⟨fun q => absurd q (by decide), fun _ => ⟨fun q => ?_, fun q => ?_⟩⟩
    · rw [if_pos (Or.inl q)] at h; exact h σ hI
    · rw [hf]
      refine sp_walked hO (fun hno hl s hk h8 => ?_) (fun j hj hj16 z s hk => ?_)
      · have hle : nI ((aD A).getD k bd0).2.2.2.2.length ≤ i := by
          apply Int32.le_iff_toInt_le.2
          rw [nI_toInt (by omega)]
          have h0 : ¬ i.toInt < 0 := fun z => q (Int32.lt_iff_toInt_lt.2 (by simpa using z))
          apply Classical.byContradiction
          intro hc
          refine hno i.toInt.toNat (by omega) ?_
          apply Int32.toInt_inj.1
          rw [nI_toInt (by omega)]
          omega
        rw [if_pos (Or.inr hle)] at h
        exact h s (zInv_K hI hk)
      · have hnl : ¬ nI ((aD A).getD k bd0).2.2.2.2.length ≤ i := by
          rw [z]
          intro hc
          have hc := Int32.le_iff_toInt_le.1 hc
          rw [nI_toInt (n := j) (by omega), nI_toInt (by omega)] at hc
          omega
        rw [if_neg (fun z => by rcases z with z | z; exact q z; exact hnl z), z, nI_clamp (by omega)] at h
        exact h s (zInv_K hI hk)
theorem sp_locals {σ : zS} {S : qS} {f : Int32} {K : Int32 → zS → Prop} {QX : zS → Prop} (hI : zInv σ S) (h : ∀ s, zInv s S → K (qLocals S f) s) : zCT zZM zmX10_locals [.ref 0, .int f] σ (zQi K) QX := by
  refine rX10_locals ?_
  unfold PX10_locals_0
  unfold qLocals at h
  refine sp_isOwn hI (fun hn => ?_) (fun A k Br b E hf hA hO hs => ?_)
  · rw [hn] at h
    exact ⟨fun _ => h σ hI, fun q => absurd rfl q⟩
  · rw [hs] at h
    obtain ⟨n, z, f1, f2, f3, f4, f5, f6, f7, g1, g2, g3, g4, g5, g6, g7, g8⟩ := own_facts hO
    obtain ⟨hk, h64, hkD, hR, hE, hBr, hby, hM, hg⟩ := hO
    have hv : vp_in (nI k) 64 := vp_in_nI (by omega) (by decide)
    rw [hf, nI_clamp (by omega), g3]
    refine ⟨fun q => absurd q (by decide), fun _ => ⟨hv, fun s3 e3 => ?_⟩⟩
    have r4 : s3.2 74 k = lN ((aF A).getD k (0, 0)).2 := by rw [e3]; exact g4
    have r7 : s3.1 62 ((aF A).getD k (0, 0)).2 = nI (sigC ((aS A).getD ((aF A).getD k (0, 0)).2 ([], 0))) := by rw [e3, zI1, if_neg (by omega)]; exact g7
    have r1 : s3.1 95 k = nI (Br + ((aD A).getD k bd0).1) := by rw [e3, zI1, if_neg (by omega)]; exact g1
    rw [r4, lN_i, nI_clamp (by omega), r7, r1]
    refine ⟨hv, vp_in_nI (by omega) (by decide), hv, ?_⟩
    have hu : mSu σ s3 Br b ((aD A).getD k bd0).2.2.1 := ⟨by rw [e3]; exact mKeep.rf.i _ (by unfold kpd; omega), fun j hj => ⟨(hby j hj).1, by rw [e3, zI1, if_neg (by omega)]; exact (hby j hj).2⟩, by rw [e3, zI1, if_pos ⟨rfl, rfl⟩], f5, hBr⟩
    refine sp_readLocals (G := (0, ((aD A).getD k bd0).2.1)) hu g8 f4 f1 f2 (fun s4 hs4 hk4 hl4 => ?_)
    rw [hl4.1]
    exact h s4 (zInv_K hI hs4.1)
