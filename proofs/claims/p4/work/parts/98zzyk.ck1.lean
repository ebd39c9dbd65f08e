/-! the tray once more: its bytes are bytes, wherever they stand -/
/-- only the tray and its length are written -/
def cBy (s : zS) : Prop := ∃ V : Nat → Nat, ∀ j, j < 16000 → V j < 256 ∧ s.1 10 j = sb_b (V j)
def cTB (σ s : zS) : Prop := (∀ c i, ¬ c = 10 → ¬ (c = 1 ∧ i = 1) → s.1 c i = σ.1 c i ∧ s.2 c i = σ.2 c i) ∧ (cBy σ → cBy s)
theorem cTB.rf {σ : zS} : cTB σ σ := ⟨fun _ _ _ _ => ⟨rfl, rfl⟩, id⟩
theorem cTB.trans {σ s u : zS} (h : cTB σ s) (h2 : cTB s u) : cTB σ u := ⟨fun c i a b => ⟨(h2.1 c i a b).1.trans (h.1 c i a b).1, (h2.1 c i a b).2.trans (h.1 c i a b).2⟩, fun z => h2.2 (h.2 z)⟩
theorem cBy_i {s : zS} {c j : Nat} {x : Int32} (hc : ¬ c = 10) (h : cBy s) : cBy (zsI s c j x) := by
  obtain ⟨V, hV⟩ := h
  exact ⟨V, fun i hi => ⟨(hV i hi).1, by rw [zI1, if_neg (by omega)]; exact (hV i hi).2⟩⟩
theorem cBy_q {σ s : zS} (h : ∀ i, s.1 10 i = σ.1 10 i) (r : cBy σ) : cBy s := by
  obtain ⟨V, hV⟩ := r
  exact ⟨V, fun i hi => ⟨(hV i hi).1, by rw [h]; exact (hV i hi).2⟩⟩
theorem cTB.push {σ s s1 s2 : zS} {n : Nat} {y v : Int32} (h : cTB σ s) (e1 : s1 = zsI s 10 n (vp_nar .byte (y.toInt8.toInt32))) (e2 : s2 = zsI s1 1 1 v) : cTB σ s2 := by
  refine ⟨fun c i a1 a2 => ⟨?_, ?_⟩, fun z => ?_⟩
  · rw [e2, zI1, if_neg (by omega), e1, zI1, if_neg (by omega)]; exact (h.1 c i a1 a2).1
  · rw [e2]; show s1.2 c i = _; rw [e1]; exact (h.1 c i a1 a2).2
  · obtain ⟨V, hV⟩ := h.2 z
    rw [e2]
    refine cBy_i (by decide) ⟨fun j => if j = n then byteOf y else V j, fun j hj => ?_⟩
    rw [e1, zI1, byte_nar]
    show (if j = n then byteOf y else V j) < 256 ∧ _ = sb_b (if j = n then byteOf y else V j)
    by_cases q : j = n
    · rw [if_pos q, if_pos ⟨rfl, q⟩]; exact ⟨byteOf_lt y, rfl⟩
    · rw [if_neg q, if_neg (fun w => q w.2)]; exact hV j hj
theorem sc_addB {σ : zS} {T : List Nat} {w : Int32} {K : zS → Prop} {QX : zS → Prop} (ht : cT σ T) (hl : T.length + 4 ≤ 16000) (h : ∀ s, cT s (T ++ wBy w) → cTB σ s → K s) : zCT zZC zmX4_add [.ref 1, .int w] σ (zQv K) QX := by
  rw [← wByC_eq] at h
  refine rX4_add (fun m x1 x2 s => m ≤ 4 ∧ x1 = w ∧ x2 = nI (8 * m) - (8 : Int32) ∧ cT s (T ++ (wByC w).take (4 - m)) ∧ cTB σ s) ?_ ?_
  · rintro m x1 x2 s ⟨hm, rfl, rfl, hs, hk⟩
    unfold PX4_add_3
    have hlt : (T ++ (wByC x1).take (4 - m)).length = T.length + (4 - m) := by rw [List.length_append, List.length_take]; show T.length + min (4 - m) 4 = _; omega
    have step : ∀ (y : Int32) (k : Nat), m = k + 1 → T ++ (wByC x1).take (4 - m) ++ [byteOf y] = T ++ (wByC x1).take (4 - k) → ∀ s1 : zS, s1 = zsI s 10 (s.1 1 1).toNatClampNeg (vp_nar .byte (y.toInt8.toInt32)) → ∀ s2 : zS, s2 = zsI s1 1 1 ((s1.1 1 1) + (1 : Int32)) → cT s2 (T ++ (wByC x1).take (4 - k)) ∧ cTB σ s2 := by
      intro y k hmk hT s1 e1 s2 e2
      rw [hs.1, nI_clamp (by omega)] at e1
      refine ⟨?_, ?_⟩
      · rw [← hT]; exact hs.push (by omega) e1 e2
      · exact hk.push e1 e2
    have g0 : ¬ (s.1 1 1) < 0 := by
      rw [hs.1]
      intro q
      exact absurd ((nI_ltI (b := 0) (by omega) (by decide)).1 q) (Nat.not_lt_zero _)
    have g1 : m = 0 ∨ ¬ (nI 16000) ≤ (s.1 1 1) := by
      by_cases q : m = 0
      · exact Or.inl q
      · refine Or.inr (fun z => ?_)
        rw [hs.1] at z
        have := (nI_leI (a := 16000) (by decide) (by omega)).1 z
        omega
    have hv : vp_in (s.1 1 1) 16000 ∨ m = 0 := by
      by_cases q : m = 0
      · exact Or.inr q
      · exact Or.inl (by rw [hs.1]; exact vp_in_nI (by omega) (by decide))
    have c4 : m = 0 ∨ m = 1 ∨ m = 2 ∨ m = 3 ∨ m = 4 := by omega
    rcases c4 with rfl | rfl | rfl | rfl | rfl
    · exact ⟨fun _ => h s hs hk, fun q => absurd (by decide) q⟩
    · exact ⟨fun q => absurd q (by decide), fun _ => ⟨fun q => absurd q g0, fun _ => ⟨fun q => absurd q (g1.resolve_left (by decide)), fun _ => ⟨hv.resolve_right (by decide), fun s1 e1 s2 e2 => ⟨0, Nat.le_refl _, by decide, rfl, by decide, step _ 0 rfl (by rw [List.append_assoc]; rfl) s1 e1 s2 e2⟩⟩⟩⟩⟩
    · exact ⟨fun q => absurd q (by decide), fun _ => ⟨fun q => absurd q g0, fun _ => ⟨fun q => absurd q (g1.resolve_left (by decide)), fun _ => ⟨hv.resolve_right (by decide), fun s1 e1 s2 e2 => ⟨1, Nat.le_refl _, by decide, rfl, by decide, step _ 1 rfl (by rw [List.append_assoc]; rfl) s1 e1 s2 e2⟩⟩⟩⟩⟩
    · exact ⟨fun q => absurd q (by decide), fun _ => ⟨fun q => absurd q g0, fun _ => ⟨fun q => absurd q (g1.resolve_left (by decide)), fun _ => ⟨hv.resolve_right (by decide), fun s1 e1 s2 e2 => ⟨2, Nat.le_refl _, by decide, rfl, by decide, step _ 2 rfl (by rw [List.append_assoc]; rfl) s1 e1 s2 e2⟩⟩⟩⟩⟩
    · exact ⟨fun q => absurd q (by decide), fun _ => ⟨fun q => absurd q g0, fun _ => ⟨fun q => absurd q (g1.resolve_left (by decide)), fun _ => ⟨hv.resolve_right (by decide), fun s1 e1 s2 e2 => ⟨3, Nat.le_refl _, by decide, rfl, by decide, step _ 3 rfl (by rw [List.append_assoc]; rfl) s1 e1 s2 e2⟩⟩⟩⟩⟩
  · unfold PX4_add_0
    exact ⟨4, trivial, Nat.le_refl _, rfl, by decide, by simpa using ht, cTB.rf⟩
/-- only the tray, its length and the number of bytes fed are written -/
def cFB (σ s : zS) : Prop := (∀ c i, ¬ c = 10 → ¬ (c = 1 ∧ i = 1) → ¬ (c = 0 ∧ i = 5) → s.1 c i = σ.1 c i ∧ s.2 c i = σ.2 c i) ∧ (cBy σ → cBy s)
theorem sc_feedB {σ : zS} {S : qS} {a b c d e : Int32} {K : Int32 → zS → Prop} {QX : zS → Prop} (ht : cT σ S.1) (hb : ∀ x ∈ S.1, x < 256) (h6 : σ.1 0 5 = nI S.2.1) (hf : S.2.1 ≤ 65536) (h : ∀ s, cT s (qFeed S a b c d e).2.1 → (∀ x ∈ (qFeed S a b c d e).2.1, x < 256) → s.1 0 5 = nI (qFeed S a b c d e).2.2.1 → (qFeed S a b c d e).2.2.1 ≤ 65536 → (qFeed S a b c d e).2.2.2 = S.2.2 → cFB σ s → K (qFeed S a b c d e).1 s) : zCT zZC zmX8_feed [.ref 0, .int a, .int b, .int c, .int d, .int e] σ (zQi K) QX := by
  refine rX8_feed ?_
  unfold PX8_feed_0
  have hlt := ht.2.1
  have c1 : (15980 : Int32) < nI S.1.length ↔ 15980 < S.1.length := nI_ltI (a := 15980) (by decide) (by omega)
  have c2 : nI S.2.1 ≤ (65516 : Int32) ↔ S.2.1 ≤ 65516 := nI_leI (b := 65516) (by omega) (by decide)
  have e6 : nI S.2.1 + (20 : Int32) = nI (S.2.1 + 20) := nI_add _ 20
  unfold qFeed at h
  rw [ht.1, h6, c1, c2]
  refine ⟨fun q => ?_, fun q => ⟨fun q2 => ?_, fun q2 => ?_⟩⟩
  · rw [if_neg (by omega)] at h; exact h σ ht hb h6 hf rfl ⟨fun _ _ _ _ _ => ⟨rfl, rfl⟩, id⟩
  · rw [if_pos ⟨by omega, by omega⟩] at h
    have w4 : ∀ w, (wBy w).length = 4 := fun _ => rfl
    refine sc_addB ht (by omega) (fun s1 t1 k1 => ?_)
    refine sc_addB t1 (by rw [List.length_append, w4]; omega) (fun s2 t2 k2 => ?_)
    refine sc_addB t2 (by simp only [List.length_append, w4]; omega) (fun s3 t3 k3 => ?_)
    refine sc_addB t3 (by simp only [List.length_append, w4]; omega) (fun s4 t4 k4 => ?_)
    refine sc_addB t4 (by simp only [List.length_append, w4]; omega) (fun s5 t5 k5 => ?_)
    intro s6 e6'
    have kk := (((k1.trans k2).trans k3).trans k4).trans k5
    have hT : S.1 ++ wBy a ++ wBy b ++ wBy c ++ wBy d ++ wBy e = S.1 ++ fBy a b c d e := by unfold fBy; simp only [List.append_assoc]
    rw [hT] at t5
    have hl5 : (S.1 ++ fBy a b c d e).length = S.1.length + 20 := by rw [List.length_append]; rfl
    have n6 : s5.1 0 5 = nI S.2.1 := by rw [(kk.1 0 5 (by omega) (by omega)).1]; exact h6
    rw [n6, e6] at e6'
    have g5 : s6.1 1 1 = nI (S.1.length + 20) := by rw [e6', zI1, if_neg (by omega), t5.1, hl5]
    rw [g5]
    refine h s6 ⟨by rw [g5, hl5], t5.2.1, fun j hj => ?_⟩ (fun x hx => ?_) ?_ (by show S.2.1 + 20 ≤ 65536; omega) rfl ⟨fun c' i a1 a2 a3 => ?_, fun hz => ?_⟩
    · rw [e6', zI1, if_neg (by omega)]; exact t5.2.2 j hj
    · rcases List.mem_append.1 hx with hx | hx
      · exact hb x hx
      · unfold fBy at hx
        simp only [List.mem_append] at hx
        rcases hx with (((hx | hx) | hx) | hx) | hx <;> exact wBy_lt _ x hx
    · rw [e6', zI1, if_pos ⟨rfl, rfl⟩]
    · rw [e6']
      exact ⟨by rw [zI1, if_neg a3]; exact (kk.1 c' i a1 a2).1, (kk.1 c' i a1 a2).2⟩
    · rw [e6']; exact cBy_i (by decide) (kk.2 hz)
  · rw [if_neg (by omega)] at h; exact h σ ht hb h6 hf rfl ⟨fun _ _ _ _ _ => ⟨rfl, rfl⟩, id⟩
theorem sc_endB {σ : zS} {S : qS} {n : Int32} {K : Int32 → zS → Prop} {QX : zS → Prop} (ht : cT σ S.1) (hb : ∀ x ∈ S.1, x < 256) (h : ∀ s, cT s (qEnd S n).2.1 → (∀ x ∈ (qEnd S n).2.1, x < 256) → (qEnd S n).2.2 = S.2 → cFB σ s → s.1 0 5 = σ.1 0 5 → K (qEnd S n).1 s) : zCT zZC zmX8_end [.ref 0, .int n] σ (zQi K) QX := by
  refine rX8_end ?_
  unfold PX8_end_0
  have hlt := ht.2.1
  unfold qEnd at h
  rw [ht.1]
  refine ⟨fun q => ⟨Or.inl rfl, ?_⟩, fun q => ⟨fun q2 s1 e1 => ⟨Or.inr rfl, ?_⟩, fun q2 => ⟨Or.inl rfl, ?_⟩⟩⟩
  · rw [if_pos (Or.inl q)] at h; exact h σ ht hb rfl ⟨fun _ _ _ _ _ => ⟨rfl, rfl⟩, id⟩ rfl
  · rw [if_neg (fun z => by rcases z with z | z; exact q z; exact z q2)] at h
    have hn2 : n.toNatClampNeg ≤ S.1.length ∧ n = nI n.toNatClampNeg := by
      have h0 : ¬ n.toInt < 0 := fun z => q (Int32.lt_iff_toInt_lt.2 (by simpa using z))
      have h1 : n.toInt ≤ (nI S.1.length).toInt := Int32.le_iff_toInt_le.1 q2
      rw [nI_toInt (by omega)] at h1
      have h2 : (n.toNatClampNeg : Int) = n.toInt := by
        show ((n.toInt).toNat : Int) = n.toInt
        omega
      refine ⟨by omega, ?_⟩
      apply Int32.toInt_inj.1
      rw [nI_toInt (by omega)]
      exact h2.symm
    have hle := hn2.1
    have hn : nI n.toNatClampNeg = n := hn2.2.symm
    have hl2 : (S.1.take n.toNatClampNeg).length = n.toNatClampNeg := by rw [List.length_take]; omega
    refine h s1 ⟨by rw [e1, zI1, if_pos ⟨rfl, rfl⟩, hl2, hn], by rw [hl2]; omega, fun j hj => ?_⟩ (fun x hx => hb x (List.mem_of_mem_take hx)) rfl ⟨fun c i a1 a2 a3 => ?_, fun hz => by rw [e1]; exact cBy_i (by decide) hz⟩ (by rw [e1, zI1, if_neg (by omega)])
    · rw [hl2] at hj
      rw [e1, zI1, if_neg (by omega), ht.2.2 j (by omega)]
      congr 1
      rw [List.getD_eq_getElem?_getD, List.getD_eq_getElem?_getD, List.getElem?_take_of_lt hj]
    · rw [e1]; exact ⟨by rw [zI1, if_neg a2], rfl⟩
  · rw [if_pos (Or.inr q2)] at h; exact h σ ht hb rfl ⟨fun _ _ _ _ _ => ⟨rfl, rfl⟩, id⟩ rfl
