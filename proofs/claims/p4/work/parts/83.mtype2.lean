/-! the typing's small methods -/
theorem sp_takes {τ σ s : zS} {B : Nat} {b : Nat → Nat} {e a n : Nat} {t : tT} {K : Int32 → zS → Prop} {QX : zS → Prop} (hs : tSt τ σ s B b e a t) (hn : n ≤ 3) (hf : ¬ t.2.1 = []) (h : (tTake n t).1 ≤ 3 → ∀ s', tSt τ σ s' B b e a (tTake n t).2 → K (nI (tTake n t).1) s') : zCT zZM zmX10_takes [.ref 0, .int (nI n)] s (zQi K) QX := by
  refine rX10_takes ?_
  unfold PX10_takes_0
  obtain ⟨h1, h2, g1, g2, g3, g4, g5, g6, g7⟩ := id hs
  obtain ⟨T, F, good⟩ := t
  cases F with
  | nil => exact absurd rfl hf
  | cons f r =>
    have g3 : s.1 0 28 = nI (r.length + 1) := g3
    have g4 : r.length + 1 ≤ 61 := g4
    have g1 : s.1 0 22 = nI T.length := g1
    have g2 : T.length ≤ 16000 := g2
    have g5 : s.1 0 31 = bI good := g5
    have c2 : nI n = (2 : Int32) ↔ n = 2 := nI_eq (b := 2) (by omega) (by decide)
    have c3 : nI n = (3 : Int32) ↔ n = 3 := nI_eq (b := 3) (by omega) (by decide)
    rw [c2]
    refine ⟨fun q => ?_, fun q => ?_⟩
    · unfold tTake at h
      rw [if_pos q] at h
      exact h (by show 2 ≤ 3; omega) s hs
    · have hbase : tBase (T, f :: r, good) = f.2.2.2.1 := rfl
      have hopen : tOpen (T, f :: r, good) = f.2.2.2.2 := rfl
      unfold tTake at h
      rw [if_neg q, hbase, hopen] at h
      have hb : f.2.2.2.1 ≤ T.length := g7.2.2.2.2.2.2.2.2.1
      have cb : nI T.length = nI f.2.2.2.1 ↔ T.length = f.2.2.2.1 := nI_eq (by omega) (by omega)
      rw [g3, nI_sub1, nI_clamp (by omega), g7.2.2.2.1, g7.2.2.2.2.1, g1, cb, g5, bI_0, bI_0]
      have vf : vp_in (nI r.length) 61 := vp_in_nI (by omega) (by decide)
      refine ⟨vf, fun q1 => ?_, fun q1 s4 e4 => ?_⟩
      · have h : (3 : Nat) ≤ 3 → ∀ s', tSt τ σ s' B b e a (T, f :: r, good && f.2.2.2.2) → K (nI 3) s' := by
          have q1' : (T, f :: r, good).1.length = f.2.2.2.1 := q1
          rw [if_pos q1'] at h
          exact h
        refine ⟨fun q2 => ⟨Or.inl rfl, fun s1 e1 => h (Nat.le_refl _) s1 ?_⟩, fun q2 => ⟨vf, fun q3 => ⟨Or.inl rfl, fun s1 e1 => h (Nat.le_refl _) s1 ?_⟩, fun q3 => ⟨Or.inr rfl, fun s1 e1 => h (Nat.le_refl _) s1 ?_⟩⟩⟩
        · rw [e1, q2]; exact hs.good false
        · rw [e1, q3, Bool.and_false]; exact hs.good false
        · have q4 : good = true := by simpa using q2
          have q5 : f.2.2.2.2 = true := by simpa using q3
          rw [e1, q4, q5]; exact hs.good true
      · cases T with
        | nil => exact absurd (show (0 : Nat) = f.2.2.2.1 by have : f.2.2.2.1 ≤ 0 := hb; omega) q1
        | cons x l =>
          have h : x ≤ 3 → ∀ s', tSt τ σ s' B b e a (l, f :: r, good && (decide (x = n) || decide (x = 3) || decide (n = 3))) → K (nI x) s' := by
            have q1' : ¬ (x :: l, f :: r, good).1.length = f.2.2.2.1 := q1
            rw [if_neg q1'] at h
            exact h
          have hb : f.2.2.2.1 ≤ l.length + 1 := hb
          have q1 : ¬ l.length + 1 = f.2.2.2.1 := q1
          have hx := g6.2.1
          have e4 : s4 = zsI s 0 22 (nI l.length) := by rw [e4]; show zsI s 0 22 (nI (l.length + 1) - (1 : Int32)) = _; rw [nI_sub1]
          have n4 : s4.1 0 22 = nI l.length := by rw [e4, zI1, if_pos ⟨rfl, rfl⟩]
          have m4 : s4.1 0 31 = bI good := by rw [e4, zI1, if_neg (by omega)]; exact g5
          have x4 : s4.1 7 l.length = nI x := by rw [e4, zI1, if_neg (by omega)]; exact g6.1
          have t4 : tSt τ σ s4 B b e a (l, f :: r, good) := by
            refine ⟨?_, ?_, n4, by show l.length ≤ 16000; have : l.length + 1 ≤ 16000 := g2; omega, ?_, g4, m4, ?_, ?_⟩
            · rw [e4]; exact h1.i _ (by unfold kpd; omega) (by omega)
            · rw [e4]; exact h2.i _ (by unfold tyC; omega)
            · rw [e4, zI1, if_neg (by omega)]; exact g3
            · rw [e4]; exact tsR_i (fun q => by omega) g6.2.2
            · rw [e4]
              obtain ⟨a1, a2, a3, a4, a5, a6, a7, a8, a9, a10⟩ := g7
              exact fsR_i (fun q => by omega) ⟨a1, a2, a3, a4, a5, a6, a7, a8, by show f.2.2.2.1 ≤ l.length; omega, a10⟩
          have cx : nI x = nI n ↔ x = n := nI_eq (by omega) (by omega)
          have cx3 : nI x = (3 : Int32) ↔ x = 3 := nI_eq (b := 3) (by omega) (by decide)
          have hl' : l.length + 1 ≤ 16000 := g2
          rw [n4, m4, nI_clamp (by omega), x4, bI_0, cx, cx3, c3]
          have ff : ∀ s5, (good && (decide (x = n) || decide (x = 3) || decide (n = 3))) = false → s5 = zsI s4 0 31 (0 : Int32) → K (nI x) s5 := fun s5 z e5 => h hx s5 (by rw [z, e5]; exact t4.good false)
          have tt : ∀ s5, (good && (decide (x = n) || decide (x = 3) || decide (n = 3))) = true → s5 = zsI s4 0 31 (1 : Int32) → K (nI x) s5 := fun s5 z e5 => h hx s5 (by rw [z, e5]; exact t4.good true)
          refine ⟨vp_in_nI (by omega) (by decide), fun q2 => ⟨Or.inl rfl, fun s5 e5 => ff s5 (by rw [q2]; rfl) e5⟩, fun q2 => ?_⟩
          have q4 : good = true := by simpa using q2
          exact ⟨fun q5 => ⟨Or.inr rfl, fun s5 e5 => tt s5 (by simp [q4, q5]) e5⟩, fun q5 => ⟨fun q6 => ⟨Or.inr rfl, fun s5 e5 => tt s5 (by simp [q4, q6]) e5⟩, fun q6 => ⟨fun q7 => ⟨Or.inr rfl, fun s5 e5 => tt s5 (by simp [q4, q7]) e5⟩, fun q7 => ⟨Or.inl rfl, fun s5 e5 => ff s5 (by simp [q5, q6, q7]) e5⟩⟩⟩⟩
theorem sp_rest {τ σ s : zS} {B : Nat} {b : Nat → Nat} {e a : Nat} {t : tT} {K : zS → Prop} {QX : zS → Prop} (hs : tSt τ σ s B b e a t) (hf : ¬ t.2.1 = []) (h : ∀ s', tSt τ σ s' B b e a (tRest t) → K s') : zCT zZM zmX10_rest [.ref 0] s (zQv K) QX := by
  refine rX10_rest ?_
  unfold PX10_rest_0
  obtain ⟨h1, h2, g1, g2, g3, g4, g5, g6, g7⟩ := id hs
  obtain ⟨T, F, good⟩ := t
  cases F with
  | nil => exact absurd rfl hf
  | cons f r =>
    have g3 : s.1 0 28 = nI (r.length + 1) := g3
    have g4 : r.length + 1 ≤ 61 := g4
    have g2 : T.length ≤ 16000 := g2
    obtain ⟨a1, a2, a3, a4, a5, a6, a7, a8, a9, a10⟩ := g7
    have a9 : f.2.2.2.1 ≤ T.length := a9
    have vf : vp_in (nI r.length) 61 := vp_in_nI (by omega) (by decide)
    rw [g3, nI_sub1, nI_clamp (by omega), a4]
    refine ⟨vf, fun s1 e1 => ?_⟩
    have n1 : s1.1 0 28 = nI (r.length + 1) := by rw [e1, zI1, if_neg (by omega)]; exact g3
    rw [n1, nI_sub1, nI_clamp (by omega)]
    refine ⟨vf, fun s2 e2 => ?_⟩
    have e2 : s2 = zsI s1 12 r.length 1 := by rw [e2]; rfl
    have hdl : (T.drop (T.length - f.2.2.2.1)).length = f.2.2.2.1 := by rw [List.length_drop]; omega
    refine h s2 ⟨?_, ?_, ?_, by show (T.drop _).length ≤ 16000; rw [hdl]; omega, ?_, g4, ?_, ?_, ?_⟩
    · rw [e2, e1]; exact (h1.i _ (by unfold kpd; omega) (by omega)).i _ (by unfold kpd; omega) (by omega)
    · rw [e2, e1]; exact (h2.i _ (by unfold tyC; omega)).i _ (by unfold tyC; omega)
    · show s2.1 0 22 = nI (T.drop _).length
      rw [hdl, e2, zI1, if_neg (by omega), e1, zI1, if_pos ⟨rfl, rfl⟩]
    · rw [e2, zI1, if_neg (by omega)]; exact n1
    · rw [e2, zI1, if_neg (by omega), e1, zI1, if_neg (by omega)]; exact g5
    · rw [e2, e1]; exact tsR_i (fun q => by omega) (tsR_i (fun q => by omega) (tsR_drop _ g6))
    · show fsR s2 (T.drop _).length _
      rw [hdl, e2, e1]
      refine ⟨?_, ?_, ?_, ?_, ?_, a6, a7, a8, Nat.le_refl _, fsR_i (fun q => Nat.le_refl _) (fsR_i (fun q => by omega) a10)⟩
      · rw [zI1, if_neg (by omega), zI1, if_neg (by omega)]; exact a1
      · rw [zI1, if_neg (by omega), zI1, if_neg (by omega)]; exact a2
      · rw [zI1, if_neg (by omega), zI1, if_neg (by omega)]; exact a3
      · rw [zI1, if_neg (by omega), zI1, if_neg (by omega)]; exact a4
      · rw [zI1, if_pos ⟨rfl, rfl⟩]; rfl
/-- as tR and tSt, whatever good is -/
def tRg (s : zS) (G : Int32) (t : tT) : Prop := s.1 0 22 = nI t.1.length ∧ t.1.length ≤ 16000 ∧ s.1 0 28 = nI t.2.1.length ∧ t.2.1.length ≤ 61 ∧ s.1 0 31 = G ∧ tsR s t.1 ∧ fsR s t.1.length t.2.1
def tSg (τ σ s : zS) (B : Nat) (b : Nat → Nat) (e a : Nat) (G : Int32) (t : tT) : Prop := mSt τ s B b e a ∧ yK σ s ∧ tRg s G t
theorem tSt.sg {τ σ s : zS} {B : Nat} {b : Nat → Nat} {e a : Nat} {t : tT} (h : tSt τ σ s B b e a t) : tSg τ σ s B b e a (bI t.2.2) t := h
theorem tSg.good {τ σ s : zS} {B : Nat} {b : Nat → Nat} {e a : Nat} {G : Int32} {t : tT} (h : tSg τ σ s B b e a G t) (c : Bool) : tSt τ σ (zsI s 0 31 (bI c)) B b e a (t.1, t.2.1, c) := by
  obtain ⟨h1, h2, g1, g2, g3, g4, g5, g6, g7⟩ := h
  refine ⟨h1.i _ (by unfold kpd; omega) (by omega), h2.i _ (by unfold tyC; omega), ?_, g2, ?_, g4, ?_, tsR_i (fun q => by omega) g6, fsR_i (fun q => by omega) g7⟩
  · rw [zI1, if_neg (by omega)]; exact g1
  · rw [zI1, if_neg (by omega)]; exact g3
  · rw [zI1, if_pos ⟨rfl, rfl⟩]
theorem sp_openFrameG {τ σ s : zS} {B : Nat} {b : Nat → Nat} {e a w l r : Nat} {G : Int32} {t : tT} {K : zS → Prop} {QX : zS → Prop} (hs : tSg τ σ s B b e a G t) (hf : t.2.1.length < 61) (hw : w ≤ 5) (hl : l ≤ 2) (hr : r ≤ 2) (h : ∀ s', tSg τ σ s' B b e a G (tFrame w l r t) → K s') : zCT zZM zmX10_openFrame [.ref 0, .int (nI w), .int (nI l), .int (nI r)] s (zQv K) QX := by
  refine rX10_openFrame ?_
  unfold PX10_openFrame_0
  obtain ⟨h1, h2, g1, g2, g3, g4, g5, g6, g7⟩ := id hs
  have vf : vp_in (nI t.2.1.length) 61 := vp_in_nI hf (by decide)
  rw [g3, nI_clamp (by omega)]
  refine ⟨vf, fun s1 e1 => ?_⟩
  have n1 : s1.1 0 28 = nI t.2.1.length := by rw [e1, zI1, if_neg (by omega)]; exact g3
  rw [n1, nI_clamp (by omega)]
  refine ⟨vf, fun s2 e2 => ?_⟩
  have n2 : s2.1 0 28 = nI t.2.1.length := by rw [e2, zI1, if_neg (by omega)]; exact n1
  rw [n2, nI_clamp (by omega)]
  refine ⟨vf, fun s3 e3 => ?_⟩
  have n3 : s3.1 0 28 = nI t.2.1.length := by rw [e3, zI1, if_neg (by omega)]; exact n2
  have m3 : s3.1 0 22 = nI t.1.length := by rw [e3, zI1, if_neg (by omega), e2, zI1, if_neg (by omega), e1, zI1, if_neg (by omega)]; exact g1
  rw [n3, m3, nI_clamp (by omega)]
  refine ⟨vf, fun s4 e4 => ?_⟩
  have n4 : s4.1 0 28 = nI t.2.1.length := by rw [e4, zI1, if_neg (by omega)]; exact n3
  rw [n4, nI_clamp (by omega)]
  refine ⟨vf, fun s5 e5 s6 e6 => ?_⟩
  have n5 : s5.1 0 28 = nI t.2.1.length := by rw [e5, zI1, if_neg (by omega)]; exact n4
  have e5 : s5 = zsI s4 12 t.2.1.length 0 := by rw [e5]; rfl
  rw [n5, nI_1] at e6
  have k7 : fsR s6 t.1.length t.2.1 := by
    rw [e6, e5, e4, e3, e2, e1]
    exact fsR_i (fun q => by omega) (fsR_i (fun q => Nat.le_refl _) (fsR_i (fun q => Nat.le_refl _) (fsR_i (fun q => Nat.le_refl _) (fsR_i (fun q => Nat.le_refl _) (fsR_i (fun q => Nat.le_refl _) g7)))))
  refine h s6 ⟨?_, ?_, ?_, g2, ?_, by show t.2.1.length + 1 ≤ 61; omega, ?_, ?_, ?_, ?_, ?_, ?_, ?_, hw, hl, hr, Nat.le_refl _, k7⟩
  · rw [e6, e5, e4, e3, e2, e1]
    exact (((((h1.i _ (by unfold kpd; omega) (by omega)).i _ (by unfold kpd; omega) (by omega)).i _ (by unfold kpd; omega) (by omega)).i _ (by unfold kpd; omega) (by omega)).i _ (by unfold kpd; omega) (by omega)).i _ (by unfold kpd; omega) (by omega)
  · rw [e6, e5, e4, e3, e2, e1]
    exact (((((h2.i _ (by unfold tyC; omega)).i _ (by unfold tyC; omega)).i _ (by unfold tyC; omega)).i _ (by unfold tyC; omega)).i _ (by unfold tyC; omega)).i _ (by unfold tyC; omega)
  · show s6.1 0 22 = nI t.1.length
    rw [e6, zI1, if_neg (by omega), e5, zI1, if_neg (by omega), e4, zI1, if_neg (by omega)]; exact m3
  · rw [e6, zI1, if_pos ⟨rfl, rfl⟩]; rfl
  · show s6.1 0 31 = G
    rw [e6, zI1, if_neg (by omega), e5, zI1, if_neg (by omega), e4, zI1, if_neg (by omega), e3, zI1, if_neg (by omega), e2, zI1, if_neg (by omega), e1, zI1, if_neg (by omega)]; exact g5
  · rw [e6, e5, e4, e3, e2, e1]
    exact tsR_i (fun q => by omega) (tsR_i (fun q => by omega) (tsR_i (fun q => by omega) (tsR_i (fun q => by omega) (tsR_i (fun q => by omega) (tsR_i (fun q => by omega) g6)))))
  · rw [e6, e5, e4, e3, e2, e1]; simp [zI1]
  · rw [e6, e5, e4, e3, e2, e1]; simp [zI1]
  · rw [e6, e5, e4, e3, e2, e1]; simp [zI1]
  · rw [e6, e5, e4, e3, e2, e1]; simp [zI1]
  · rw [e6, e5, e4, e3, e2, e1]; simp [zI1, bI]
theorem sp_openFrame {τ σ s : zS} {B : Nat} {b : Nat → Nat} {e a w l r : Nat} {t : tT} {K : zS → Prop} {QX : zS → Prop} (hs : tSt τ σ s B b e a t) (hf : t.2.1.length < 61) (hw : w ≤ 5) (hl : l ≤ 2) (hr : r ≤ 2) (h : ∀ s', tSt τ σ s' B b e a (tFrame w l r t) → K s') : zCT zZM zmX10_openFrame [.ref 0, .int (nI w), .int (nI l), .int (nI r)] s (zQv K) QX :=
  sp_openFrameG hs.sg hf hw hl hr (fun s' hs' => h s' hs')
