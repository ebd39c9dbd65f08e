/-! the answers: what an object of either class holds between two calls, and what its calls answer -/
/-- the tray's bytes, how many were fed in all, the latest place, the latest module without a fault -/
abbrev qS : Type := List Nat × Nat × Int32 × Option mA
def byteOf (x : Int32) : Nat := (x.toBitVec.setWidth 8).toNat
theorem byteOf_lt (x : Int32) : byteOf x < 256 := (x.toBitVec.setWidth 8).isLt
theorem byte_eq (x : Int32) : (nI (byteOf x)).toInt8 = x.toInt8 := by
  apply Int8.toBitVec_inj.1
  show (BitVec.ofNat 32 (x.toBitVec.setWidth 8).toNat).signExtend 8 = x.toBitVec.signExtend 8
  rw [BitVec.signExtend_eq_setWidth_of_le _ (by decide), BitVec.signExtend_eq_setWidth_of_le _ (by decide)]
  apply BitVec.eq_of_toNat_eq
  simp
theorem byte_nar (x : Int32) : vp_nar .byte (x.toInt8.toInt32) = sb_b (byteOf x) := by
  show x.toInt8.toInt32.toInt8.toInt32 = (nI (byteOf x)).toInt8.toInt32
  rw [byte_eq, Int8.toInt8_toInt32]
/-- the bytes of an int, the highest first -/
def wBy (w : Int32) : List Nat := [byteOf (w >>> (24 &&& 31)), byteOf (w >>> (16 &&& 31)), byteOf (w >>> (8 &&& 31)), byteOf (w >>> (0 &&& 31))]
/-- the bytes that a call of feed brings -/
def fBy (a b c d e : Int32) : List Nat := wBy a ++ wBy b ++ wBy c ++ wBy d ++ wBy e
theorem wBy_lt (w : Int32) : ∀ x ∈ wBy w, x < 256 := by
  intro x hx
  simp only [wBy, List.mem_cons, List.not_mem_nil, or_false] at hx
  rcases hx with rfl | rfl | rfl | rfl <;> exact byteOf_lt _
/-- the tray's bytes -/
def tray (s : zS) (T : List Nat) : Prop := s.1 0 5 = nI T.length ∧ T.length ≤ 16000 ∧ ∀ j, j < T.length → s.1 5 j = sb_b (T.getD j 0)
/-- only the tray and its length are written -/
def trK (σ s : zS) : Prop := ∀ c i, ¬ c = 5 → ¬ (c = 0 ∧ i = 5) → s.1 c i = σ.1 c i ∧ s.2 c i = σ.2 c i
theorem trK.rf {σ : zS} : trK σ σ := fun _ _ _ _ => ⟨rfl, rfl⟩
theorem trK.trans {σ s u : zS} (h : trK σ s) (h2 : trK s u) : trK σ u := fun c i a b => ⟨(h2 c i a b).1.trans (h c i a b).1, (h2 c i a b).2.trans (h c i a b).2⟩
theorem trK.i {σ s : zS} (h : trK σ s) {c j : Nat} (x : Int32) (hc : c = 5 ∨ (c = 0 ∧ j = 5)) : trK σ (zsI s c j x) := fun a i h1 h2 => ⟨by rw [zI1, if_neg (by omega)]; exact (h a i h1 h2).1, (h a i h1 h2).2⟩
theorem tray.push {s s1 s2 : zS} {T : List Nat} {y : Int32} (h : tray s T) (hl : T.length < 16000) (e1 : s1 = zsI s 5 T.length (vp_nar .byte (y.toInt8.toInt32))) (e2 : s2 = zsI s1 0 5 ((s1.1 0 5) + (1 : Int32))) : tray s2 (T ++ [byteOf y]) := by
  have n1 : s1.1 0 5 = nI T.length := by rw [e1, zI1, if_neg (by omega)]; exact h.1
  rw [n1, nI_1] at e2
  refine ⟨by rw [e2, zI1, if_pos ⟨rfl, rfl⟩]; simp, by simp; omega, fun j hj => ?_⟩
  rw [List.length_append] at hj
  simp only [List.length_cons, List.length_nil] at hj
  rw [e2, zI1, if_neg (by omega), e1, zI1]
  by_cases q : j = T.length
  · rw [if_pos ⟨rfl, q⟩, byte_nar, q]; simp
  · rw [if_neg (by omega), h.2.2 j (by omega)]
    simp [List.getD_eq_getElem?_getD, List.getElem?_append_left (show j < T.length by omega)]
theorem sp_word {σ : zS} {T : List Nat} {w : Int32} {K : zS → Prop} {QX : zS → Prop} (ht : tray σ T) (hl : T.length + 4 ≤ 16000) (h : ∀ s, tray s (T ++ wBy w) → trK σ s → K s) : zCT zZM zmX10_word [.ref 0, .int w] σ (zQv K) QX := by
  refine rX10_word (fun m x1 x2 s => m ≤ 4 ∧ x1 = w ∧ x2 = nI m - (1 : Int32) ∧ tray s (T ++ (wBy w).take (4 - m)) ∧ trK σ s) ?_ ?_
  · rintro m x1 x2 s ⟨hm, rfl, rfl, hs, hk⟩
    unfold PX10_word_2
    have hlt : (T ++ (wBy x1).take (4 - m)).length = T.length + (4 - m) := by rw [List.length_append, List.length_take]; show T.length + min (4 - m) 4 = _; omega
    have step : ∀ (y : Int32) (k : Nat), m = k + 1 → T ++ (wBy x1).take (4 - m) ++ [byteOf y] = T ++ (wBy x1).take (4 - k) → ∀ s1 : zS, s1 = zsI s 5 (s.1 0 5).toNatClampNeg (vp_nar .byte (y.toInt8.toInt32)) → ∀ s2 : zS, s2 = zsI s1 0 5 ((s1.1 0 5) + (1 : Int32)) → tray s2 (T ++ (wBy x1).take (4 - k)) ∧ trK σ s2 := by
      intro y k hmk hT s1 e1 s2 e2
      rw [hs.1, nI_clamp (by omega)] at e1
      refine ⟨?_, ?_⟩
      · rw [← hT]; exact hs.push (by omega) e1 e2
      · rw [e2, e1]; exact (hk.i _ (Or.inl rfl)).i _ (Or.inr ⟨rfl, rfl⟩)
    have hv : vp_in (s.1 0 5) 16000 ∨ m = 0 := by
      by_cases q : m = 0
      · exact Or.inr q
      · exact Or.inl (by rw [hs.1]; exact vp_in_nI (by omega) (by decide))
    have c4 : m = 0 ∨ m = 1 ∨ m = 2 ∨ m = 3 ∨ m = 4 := by omega
    rcases c4 with rfl | rfl | rfl | rfl | rfl
    · exact ⟨fun _ => h s hs hk, fun q => absurd (by decide) q⟩
    · exact ⟨fun q => absurd q (by decide), fun _ => ⟨hv.resolve_right (by decide), fun s1 e1 s2 e2 => ⟨0, Nat.le_refl _, by decide, rfl, by decide, step _ 0 rfl (by rw [List.append_assoc]; rfl) s1 e1 s2 e2⟩⟩⟩
    · exact ⟨fun q => absurd q (by decide), fun _ => ⟨hv.resolve_right (by decide), fun s1 e1 s2 e2 => ⟨1, Nat.le_refl _, by decide, rfl, by decide, step _ 1 rfl (by rw [List.append_assoc]; rfl) s1 e1 s2 e2⟩⟩⟩
    · exact ⟨fun q => absurd q (by decide), fun _ => ⟨hv.resolve_right (by decide), fun s1 e1 s2 e2 => ⟨2, Nat.le_refl _, by decide, rfl, by decide, step _ 2 rfl (by rw [List.append_assoc]; rfl) s1 e1 s2 e2⟩⟩⟩
    · exact ⟨fun q => absurd q (by decide), fun _ => ⟨hv.resolve_right (by decide), fun s1 e1 s2 e2 => ⟨3, Nat.le_refl _, by decide, rfl, by decide, step _ 3 rfl (by rw [List.append_assoc]; rfl) s1 e1 s2 e2⟩⟩⟩
  · unfold PX10_word_0
    exact ⟨4, trivial, Nat.le_refl _, rfl, by decide, by simpa using ht, trK.rf⟩
