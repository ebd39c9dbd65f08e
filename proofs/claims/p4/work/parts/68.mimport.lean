/-! the reference's imports -/
theorem idxK_app (k : Nat) : ∀ (l : List mImpT) (n : Nat) (x : mImpT), idxK k n (l ++ [x]) = idxK k n l ++ (if x.2.1 = k then [n + l.length] else []) := by
  intro l
  induction l with
  | nil => intro n x; simp [idxK]
  | cons y r ih =>
    intro n x
    simp only [List.cons_append, idxK, List.length_cons]
    have e : n + 1 + r.length = n + (r.length + 1) := by omega
    rw [ih, e]
    split <;> simp
theorem idxK_len (k : Nat) : ∀ (l : List mImpT) (n : Nat), (idxK k n l).length ≤ l.length := by
  intro l
  induction l with
  | nil => intro n; simp [idxK]
  | cons y r ih =>
    intro n
    simp only [idxK, List.length_cons]
    have := ih (n + 1)
    split
    · simp only [List.length_cons]; omega
    · omega
def rI (σ : zS) (B i : Nat) (x : mImpT) : Prop := x.2.1 ≤ 3 ∧ x.2.2.1 < 16000 ∧ x.1 < 16000 ∧ σ.1 27 i = nI (B + x.1) ∧ σ.1 24 i = nI x.2.1 ∧ σ.1 26 i = nI (B + x.2.2.1) ∧
    (x.2.1 = 0 → x.2.2.2.1 < 2 ^ 35 ∧ σ.2 25 i = lN x.2.2.2.1) ∧ (x.2.1 = 3 → x.2.2.2.1 ≤ 1 ∧ x.2.2.2.2.1 ≤ 1 ∧ σ.2 25 i = lN x.2.2.2.1 ∧ σ.1 28 i = nI x.2.2.2.2.1) ∧
    (x.2.1 = 1 ∨ x.2.1 = 2 → x.2.2.2.2.2.1 < 2 ^ 35 ∧ (∀ n, x.2.2.2.2.2.2 = some n → n < 2 ^ 35) ∧ σ.2 29 i = lN x.2.2.2.2.2.1 ∧ σ.2 30 i = optL x.2.2.2.2.2.2)
theorem rI_q {σ σ' : zS} {B i : Nat} {x : mImpT} (h : rI σ B i x) (q : ∀ c, 24 ≤ c → c ≤ 30 → σ'.1 c i = σ.1 c i ∧ σ'.2 c i = σ.2 c i) : rI σ' B i x := by
  unfold rI
  rw [(q 27 (by decide) (by decide)).1, (q 24 (by decide) (by decide)).1, (q 26 (by decide) (by decide)).1, (q 25 (by decide) (by decide)).2, (q 28 (by decide) (by decide)).1, (q 29 (by decide) (by decide)).2, (q 30 (by decide) (by decide)).2]
  exact h
/-- of the imports only row n is written -/
def iK (σ s : zS) (n : Nat) : Prop := (∀ c i, 24 ≤ c → c ≤ 30 → ¬ i = n → s.1 c i = σ.1 c i ∧ s.2 c i = σ.2 c i) ∧ (∀ i, s.1 55 i = σ.1 55 i ∧ s.1 56 i = σ.1 56 i) ∧ s.1 1 3 = σ.1 1 3
theorem iK.rf {σ : zS} {n : Nat} : iK σ σ n := ⟨fun _ _ _ _ _ => ⟨rfl, rfl⟩, fun _ => ⟨rfl, rfl⟩, rfl⟩
theorem iK.i {σ s : zS} {n c : Nat} (h : iK σ s n) (x : Int32) (h1 : 20 ≤ c) (h2 : c ≤ 30) : iK σ (zsI s c n x) n :=
  ⟨fun d i d1 d2 di => ⟨by rw [zI1, if_neg (by omega)]; exact (h.1 d i d1 d2 di).1, (h.1 d i d1 d2 di).2⟩, fun i => ⟨by rw [zI1, if_neg (by omega)]; exact (h.2.1 i).1, by rw [zI1, if_neg (by omega)]; exact (h.2.1 i).2⟩, by rw [zI1, if_neg (by omega)]; exact h.2.2⟩
theorem iK.l {σ s : zS} {n c : Nat} (h : iK σ s n) (x : Int64) : iK σ (zsL s c n x) n :=
  ⟨fun d i d1 d2 di => ⟨(h.1 d i d1 d2 di).1, by rw [zL2, if_neg (by omega)]; exact (h.1 d i d1 d2 di).2⟩, h.2.1, h.2.2⟩
theorem iK.at {σ s : zS} {n : Nat} (h : iK σ s n) (x : Nat) : iK σ (mAt s x) n :=
  ⟨fun d i d1 d2 di => ⟨by rw [mAt, zI1, if_neg (by omega)]; exact (h.1 d i d1 d2 di).1, (h.1 d i d1 d2 di).2⟩, fun i => ⟨by rw [mAt, zI1, if_neg (by omega)]; exact (h.2.1 i).1, by rw [mAt, zI1, if_neg (by omega)]; exact (h.2.1 i).2⟩, by rw [mAt, zI1, if_neg (by omega)]; exact h.2.2⟩
theorem iK.own {σ s s' : zS} {n : Nat} (h : iK σ s n) {l : List Nat} (ho : mOwn l s s') : iK σ s' n :=
  ⟨fun d i d1 d2 di => ⟨by rw [ho.1 d i (by omega)]; exact (h.1 d i d1 d2 di).1, by rw [ho.2 d i (by omega)]; exact (h.1 d i d1 d2 di).2⟩, fun i => ⟨by rw [ho.1 55 i (by omega)]; exact (h.2.1 i).1, by rw [ho.1 56 i (by omega)]; exact (h.2.1 i).2⟩, by rw [ho.1 1 3 (by omega)]; exact h.2.2⟩
theorem sp_import207 {τ σ s9 : zS} {B : Nat} {b : Nat → Nat} {e p kd : Nat} {l : List mImpT} {x : mImpT} {K : zS → Prop} {QX : zS → Prop} (hr : r2 σ B l) (hl : l.length < 32) (hkd : kd ≤ 3)
    (h9 : mT 2 τ σ s9 B b e p) (k9 : iK σ s9 l.length) (hx : x.2.1 = kd) (hri : rI s9 B l.length x) (hK : ∀ σ', mSt τ σ' B b e p → r2 σ' B (l ++ [x]) → mF 2 σ σ' → K σ') : PX10_importLine_207 (zQv K) QX (nI l.length) (nI kd) s9 := by
  unfold PX10_importLine_207
  have hc := idxK_len kd l 0
  have g55 : s9.1 55 kd = nI (idxK kd 0 l).length := by rw [(k9.2.1 kd).1]; exact (hr.2.2.2 kd (by omega)).1
  have ek : (nI kd).toNatClampNeg = kd := nI_clamp (by omega)
  have em : nI kd * (32 : Int32) + nI (idxK kd 0 l).length = nI (kd * 32 + (idxK kd 0 l).length) := by
    rw [Int32.mul_comm, show (32 : Int32) * nI kd = nI (32 * kd) from pk_mul 32 kd, nI_add, Nat.mul_comm]
  have v4 : vp_in (nI kd) 4 := vp_in_nI (by omega) (by decide)
  rw [ek, g55, em, nI_clamp (by omega)]
  refine ⟨v4, vp_in_nI (by omega) (by decide), fun s1 e1 => ⟨v4, v4, fun s2 e2 s3 e3 => ?_⟩⟩
  have g1 : s1.1 55 kd = nI (idxK kd 0 l).length := by rw [e1, zI1, if_neg (by omega)]; exact g55
  rw [g1, nI_1] at e2
  have n2 : s2.1 1 3 = nI l.length := by rw [e2, zI1, if_neg (by omega), e1, zI1, if_neg (by omega), k9.2.2]; exact hr.1
  rw [n2, nI_1] at e3
  have h1 : mT 2 τ σ s1 B b e p := by rw [e1]; exact h9.i _ rfl (by omega)
  have h2 : mT 2 τ σ s2 B b e p := by rw [e2]; exact h1.i _ rfl (by omega)
  have h3 : mT 2 τ σ s3 B b e p := by rw [e3]; exact h2.i _ rfl (by omega)
  have fr : ∀ c i, 24 ≤ c → c ≤ 30 → s3.1 c i = s9.1 c i ∧ s3.2 c i = s9.2 c i := fun c i c1 c2 =>
    ⟨by rw [e3, zI1, if_neg (by omega), e2, zI1, if_neg (by omega), e1, zI1, if_neg (by omega)], by rw [e3, e2, e1]; rfl⟩
  refine hK s3 h3.1 ⟨?_, ?_, fun i _ y hy => row_app (P := fun i y => rI s3 B i y) (fun i y hi hy => ?_) ?_ i y hy, fun k hk => ?_⟩ h3.2
  · rw [e3, zI1, if_pos ⟨rfl, rfl⟩, len_app]
  · rw [len_app]; omega
  · exact rI_q (hr.2.2.1 i hi y hy) (fun c c1 c2 => ⟨(fr c i c1 c2).1.trans (k9.1 c i c1 c2 (by omega)).1, (fr c i c1 c2).2.trans (k9.1 c i c1 c2 (by omega)).2⟩)
  · exact rI_q hri (fun c c1 c2 => fr c _ c1 c2)
  · have hc' := idxK_len k l 0
    have old := hr.2.2.2 k hk
    rw [idxK_app, hx, Nat.zero_add]
    by_cases q : kd = k
    · subst q
      rw [if_pos rfl, len_app]
      refine ⟨by rw [e3, zI1, if_neg (by omega), e2, zI1, if_pos ⟨rfl, rfl⟩], fun j hj => ?_⟩
      rw [e3, zI1, if_neg (by omega), e2, zI1, if_neg (by omega), e1, zI1]
      by_cases qj : j = (idxK kd 0 l).length
      · rw [if_pos ⟨rfl, by rw [qj]⟩, qj]
        simp
      · rw [if_neg (by omega), (k9.2.1 _).2, old.2 j (by omega)]
        simp [List.getD_eq_getElem?_getD, List.getElem?_append_left (show j < (idxK kd 0 l).length by omega)]
    · rw [if_neg q, List.append_nil]
      refine ⟨by rw [e3, zI1, if_neg (by omega), e2, zI1, if_neg (by omega), e1, zI1, if_neg (by omega), (k9.2.1 _).1]; exact old.1, fun j hj => ?_⟩
      rw [e3, zI1, if_neg (by omega), e2, zI1, if_neg (by omega), e1, zI1, if_neg (by omega), (k9.2.1 _).2]
      exact old.2 j hj
theorem sp_import125 {τ σ s9 : zS} {B : Nat} {b : Nat → Nat} {e a p kd : Nat} {l : List mImpT} {K : zS → Prop} {QX : zS → Prop} (hr : r2 σ B l) (hl : l.length < 32) (hkd : kd ≤ 3) (ha : a < 16000)
    (h9 : mT 2 τ σ s9 B b e p) (k9 : iK σ s9 l.length) (g27 : s9.1 27 l.length = nI (B + a)) (g24 : s9.1 24 l.length = nI kd)
    (h : mW (if kd = 0 then (mU b e p).bind fun u => .ok ((a, 0, p, u.1, 0, 0, none), u.2)
      else if kd = 3 then (mType b e p).bind fun t => (mFlag b e t.2).bind fun f => .ok ((a, 3, p, t.1, f.1, 0, none), f.2)
      else (mLim b e p).bind fun l => (.ok ((a, kd, p, 0, 0, l.1.1, l.1.2), l.2) : mE (mImpT × Nat))) (fun r => ∀ σ', mSt τ σ' B b e r.2 → r2 σ' B (l ++ [r.1]) → mF 2 σ σ' → K σ') (mEr τ B QX)) : PX10_importLine_125 (zQv K) QX (nI l.length) (nI kd) s9 := by
  unfold PX10_importLine_125
  have vl : vp_in (nI l.length) 32 := vp_in_nI hl (by decide)
  have he := h9.1.2.2.2.2.2.1
  rw [nI_clamp (by omega), h9.1.2.2.1]
  refine ⟨vl, fun s1 e1 => ?_⟩
  have h1 : mT 2 τ σ s1 B b e p := by rw [e1]; exact h9.i _ rfl (by omega)
  have k1 : iK σ s1 l.length := by rw [e1]; exact k9.i _ (by decide) (by decide)
  have g27 : s1.1 27 l.length = nI (B + a) := by rw [e1, zI1, if_neg (by omega)]; exact g27
  have g24 : s1.1 24 l.length = nI kd := by rw [e1, zI1, if_neg (by omega)]; exact g24
  have g26 : s1.1 26 l.length = nI (B + p) := by rw [e1, zI1, if_pos ⟨rfl, rfl⟩]
  have c0 : nI kd = (0 : Int32) ↔ kd = 0 := nI_eq (b := 0) (by omega) (by decide)
  have c3 : nI kd = (3 : Int32) ↔ kd = 3 := nI_eq (b := 3) (by omega) (by decide)
  rw [c0, c3]
  refine ⟨fun q => ?_, fun q => ⟨fun q3 => ?_, fun q3 => ?_⟩⟩
  · rw [if_pos q, mW_bind] at h
    refine sp_u h1.1 (mW_mono h (fun u hu h => ?_) (fun k p _ h => h))
    have u1 := mU_in hu h1.1.2.2.2.2.1
    have u2 := mU_lt hu
    refine ⟨vl, fun s4 e4 => ?_⟩
    rw [mW_ok] at h
    refine sp_import207 hr hl hkd (by rw [e4]; exact (h1.at u1.2).l _ rfl (by omega)) (by rw [e4]; exact (k1.at _).l _) q.symm ?_ h
    refine ⟨by show 0 ≤ 3; omega, by show p < 16000; omega, ha, ?_, ?_, ?_, fun _ => ⟨u2, ?_⟩, fun z => by simp at z, fun z => by simp at z⟩
    · rw [e4]; simpa [zL1, mAt, zI1] using g27
    · rw [e4]; simpa [zL1, mAt, zI1, q] using g24
    · rw [e4]; simpa [zL1, mAt, zI1] using g26
    · rw [e4]; simp [zL2]
  · rw [if_neg q, if_pos q3, mW_bind] at h
    refine sp_type h1.1 (mW_mono h (fun t ht h => ?_) (fun k p _ h => h))
    obtain ⟨t1, t2, t3, t4⟩ := mType_in ht
    refine ⟨vl, fun s7 e7 => ?_⟩
    rw [nI_l (by omega)] at e7
    have h7 : mT 2 τ σ s7 B b e t.2 := by rw [e7]; exact (h1.at (by omega)).l _ rfl (by omega)
    have k7 : iK σ s7 l.length := by rw [e7]; exact (k1.at _).l _
    rw [mW_bind] at h
    refine sp_flag h7.1 (mW_mono h (fun f hf h => ?_) (fun k p _ h => h))
    obtain ⟨f1, rfl, f3⟩ := mFlag_in hf
    refine ⟨vl, fun s10 e10 => ?_⟩
    rw [nar_b f3] at e10
    rw [mW_ok] at h
    refine sp_import207 hr hl hkd (by rw [e10]; exact (h7.at (by omega)).i _ rfl (by omega)) (by rw [e10]; exact (k7.at _).i _ (by decide) (by decide)) q3.symm ?_ h
    refine ⟨by show 3 ≤ 3; omega, by show p < 16000; omega, ha, ?_, ?_, ?_, fun z => by simp at z, fun _ => ⟨t3, f3, ?_, ?_⟩, fun z => by simp at z⟩
    · rw [e10, e7]; simpa [zL1, mAt, zI1] using g27
    · rw [e10, e7]; simpa [zL1, mAt, zI1, q3] using g24
    · rw [e10, e7]; simpa [zL1, mAt, zI1] using g26
    · rw [e10, e7]; simp [zL2, zI2, mAt]
    · rw [e10]; simp [zI1]
  · rw [if_neg q, if_neg q3, mW_bind] at h
    refine sp_limits h1.1 (mW_mono h (fun u hu h => ?_) (fun k p _ h => h))
    have u1 := mLim_in hu
    intro u2 u3 s11 hs11 ho11 e16 e17
    have h11 : mT 2 τ σ s11 B b e u.2 := h1.own hs11 ho11 (by simp [zown])
    have k11 : iK σ s11 l.length := k1.own ho11
    have f11 : ∀ c i, ¬ c = 0 → s11.1 c i = s1.1 c i := fun c i z => ho11.1 c i (fun y => z y.1)
    refine ⟨vl, fun s12 e12 => ⟨vl, fun s13 e13 => ?_⟩⟩
    have h12 : mT 2 τ σ s12 B b e u.2 := by rw [e12]; exact h11.l _ rfl (by omega)
    have g17 : s12.2 0 17 = optL u.1.2 := by rw [e12, zL2, if_neg (by omega)]; exact e17
    rw [e16] at e12
    rw [g17] at e13
    rw [mW_ok] at h
    refine sp_import207 hr hl hkd (by rw [e13]; exact h12.l _ rfl (by omega)) (by rw [e13, e12]; exact (k11.l _).l _) rfl ?_ h
    refine ⟨hkd, by show p < 16000; omega, ha, ?_, ?_, ?_, fun z => absurd z q, fun z => absurd z q3, fun _ => ⟨u2, u3, ?_, ?_⟩⟩
    · rw [e13, e12]; simpa [zL1, f11] using g27
    · rw [e13, e12]; simpa [zL1, f11] using g24
    · rw [e13, e12]; simpa [zL1, f11] using g26
    · rw [e13, e12]; simp [zL2]
    · rw [e13]; simp [zL2]
theorem sp_import {τ σ : zS} {B : Nat} {b : Nat → Nat} {e a : Nat} {l : List mImpT} {K : zS → Prop} {QX : zS → Prop} (hs : mSt τ σ B b e a) (hr : r2 σ B l)
    (h : mW (if l.length = 32 then .error (4, a) else mImp b e a) (fun r => ∀ σ', mSt τ σ' B b e r.2 → r2 σ' B (l ++ [r.1]) → mF 2 σ σ' → K σ') (mEr τ B QX)) : zCT zZM zmX10_importLine [.ref 0, .ref 1] σ (zQv K) QX := by
  refine rX10_importLine ?_
  obtain ⟨hk, hb, hat, hen, hae, he, hB⟩ := id hs
  unfold PX10_importLine_0
  have c32 : nI l.length = (32 : Int32) ↔ l.length = 32 := nI_eq (b := 32) (by have := hr.2.1; omega) (by decide)
  rw [hr.1, c32, hat]
  rw [mW_ite] at h
  refine ⟨fun q => ?_, fun q => ?_⟩
  · rw [if_pos q] at h
    exact sp_throw (k := 4) hk h
  · rw [if_neg q] at h
    have hl : l.length < 32 := by have := hr.2.1; omega
    have vl : vp_in (nI l.length) 32 := vp_in_nI hl (by decide)
    unfold mImp at h
    rw [mW_bind] at h
    rw [nI_clamp (by omega)]
    refine ⟨vl, fun s3 e3 => ?_⟩
    have h3 : mT 2 τ σ s3 B b e a := by rw [e3]; exact (mT.of hs).i _ rfl (by omega)
    have k3 : iK σ s3 l.length := by rw [e3]; exact iK.rf.i _ (by decide) (by decide)
    have g3 : s3.1 27 l.length = nI (B + a) := by rw [e3, zI1, if_pos ⟨rfl, rfl⟩]
    refine sp_name (short := true) h3.1 rfl (mW_mono h (fun n hn h => ?_) (fun k p _ h => h))
    obtain ⟨m1, m2, m3, m4, m5, m6⟩ := mName_in hn hae
    intro s4 hs4 ho4 _ _
    have h4 : mT 2 τ σ s4 B b e n.2 := h3.own hs4 ho4 (by simp [zown])
    have k4 : iK σ s4 l.length := k3.own ho4
    have g4 : s4.1 27 l.length = nI (B + a) := by rw [ho4.1 27 _ (by omega)]; exact g3
    refine ⟨vl, fun s5 e5 => ⟨vl, fun s6 e6 => ?_⟩⟩
    have h5 : mT 2 τ σ s5 B b e n.2 := by rw [e5]; exact h4.i _ rfl (by omega)
    have k5 : iK σ s5 l.length := by rw [e5]; exact k4.i _ (by decide) (by decide)
    have g5 : s5.1 27 l.length = nI (B + a) := by rw [e5, zI1, if_neg (by omega)]; exact g4
    have h6 : mT 2 τ σ s6 B b e n.2 := by rw [e6]; exact h5.i _ rfl (by omega)
    have k6 : iK σ s6 l.length := by rw [e6]; exact k5.i _ (by decide) (by decide)
    have g6 : s6.1 27 l.length = nI (B + a) := by rw [e6, zI1, if_neg (by omega)]; exact g5
    rw [mW_bind] at h
    refine sp_name (short := true) h6.1 rfl (mW_mono h (fun n' hn' h => ?_) (fun k p _ h => h))
    obtain ⟨w1, w2, w3, w4, w5, w6⟩ := mName_in hn' m3
    intro s7 hs7 ho7 _ _
    have h7 : mT 2 τ σ s7 B b e n'.2 := h6.own hs7 ho7 (by simp [zown])
    have k7 : iK σ s7 l.length := k6.own ho7
    have g7 : s7.1 27 l.length = nI (B + a) := by rw [ho7.1 27 _ (by omega)]; exact g6
    refine ⟨vl, fun s8 e8 => ⟨vl, fun s9 e9 => ?_⟩⟩
    have h8 : mT 2 τ σ s8 B b e n'.2 := by rw [e8]; exact h7.i _ rfl (by omega)
    have k8 : iK σ s8 l.length := by rw [e8]; exact k7.i _ (by decide) (by decide)
    have g8 : s8.1 27 l.length = nI (B + a) := by rw [e8, zI1, if_neg (by omega)]; exact g7
    have h9 : mT 2 τ σ s9 B b e n'.2 := by rw [e9]; exact h8.i _ rfl (by omega)
    have k9 : iK σ s9 l.length := by rw [e9]; exact k8.i _ (by decide) (by decide)
    have g9 : s9.1 27 l.length = nI (B + a) := by rw [e9, zI1, if_neg (by omega)]; exact g8
    rw [mW_bind] at h
    refine sp_octet h9.1 (mW_mono h (fun k hk' h => ?_) (fun k p _ h => h))
    obtain ⟨k1, rfl⟩ := mOct_in hk'
    have hbk := (hb n'.2 (by omega)).1
    have h10 : mT 2 τ σ (mAt s9 (B + (n'.2 + 1))) B b e (n'.2 + 1) := h9.at (by omega)
    have c3 : nI (b n'.2) ≤ (3 : Int32) ↔ b n'.2 ≤ 3 := nI_leI (b := 3) (by omega) (by decide)
    have c1 : nI (b n'.2) = (1 : Int32) ↔ b n'.2 = 1 := nI_eq (b := 1) (by omega) (by decide)
    rw [mW_ite] at h
    rw [c3, c1]
    refine ⟨fun q1 => ⟨vl, fun s12 e12 => ?_⟩, fun q1 => ?_⟩
    · rw [if_neg (show ¬ 3 < b n'.2 by omega)] at h
      have h12 : mT 2 τ σ s12 B b e (n'.2 + 1) := by rw [e12]; exact h10.i _ rfl (by omega)
      have k12 : iK σ s12 l.length := by rw [e12]; exact (k9.at _).i _ (by decide) (by decide)
      have g12 : s12.1 27 l.length = nI (B + a) := by rw [e12, zI1, if_neg (by omega), mAt, zI1, if_neg (by omega)]; exact g9
      have g24 : s12.1 24 l.length = nI (b n'.2) := by rw [e12, zI1, if_pos ⟨rfl, rfl⟩]
      refine ⟨fun qt => ?_, fun qt => ?_⟩
      · rw [if_neg (show ¬ b n'.2 = 0 by omega), if_neg (show ¬ b n'.2 = 3 by omega), if_pos qt, mW_bind] at h
        refine sp_needOctet (v := 112) h12.1 (by decide) (mW_mono h (fun r hr' h => ?_) (fun k p _ h => h))
        obtain ⟨z1, rfl, z3⟩ := mNeed_in hr'
        refine sp_import125 (a := a) hr hl q1 (by omega) (h12.at (by omega)) (k12.at _) (by rw [mAt, zI1, if_neg (by omega)]; exact g12) (by rw [mAt, zI1, if_neg (by omega)]; exact g24) ?_
        rw [if_neg (show ¬ b n'.2 = 0 by omega), if_neg (show ¬ b n'.2 = 3 by omega), qt]
        exact h
      · refine sp_import125 (a := a) hr hl q1 (by omega) h12 k12 g12 g24 ?_
        by_cases q0 : b n'.2 = 0
        · rw [if_pos q0] at h ⊢; exact h
        · rw [if_neg q0] at h ⊢
          by_cases q3 : b n'.2 = 3
          · rw [if_pos q3] at h ⊢; exact h
          · rw [if_neg q3] at h ⊢
            rw [if_neg qt] at h
            rw [show b n'.2 = 2 by omega]
            exact h
    · rw [if_pos (by omega)] at h
      rw [h9.1.2.2.1]
      exact sp_throw (k := 1) h10.1.1 h
