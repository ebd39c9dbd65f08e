/-! the reference's typing of an instruction of one byte -/
theorem fo_mem : ∀ n, n < 256 → (isLdN n = true ∨ isStN n = true) → mFollows n = 5 := by decide +kernel
theorem lR.of {σ s : zS} {L : List Nat} (h : lR σ L) (k : yK σ s) : lR s L := ⟨by rw [(k 0 30 (by unfold tyC; omega)).1]; exact h.1, h.2.1, fun i hi => by rw [(k 13 i (by unfold tyC; omega)).1]; exact h.2.2 i hi⟩
theorem mRep_S {σ : zS} {B : Nat} {A : mA} (h : mRep σ B A) {k : Nat} (hk : k < (aS A).length) : sigOk ((aS A).getD k ([], 0)) ∧ σ.1 19 k = nI (sigC ((aS A).getD k ([], 0))) ∧ (aS A).length ≤ 64 ∧ σ.1 1 2 = nI (aS A).length := by
  refine ⟨?_, h.1.2.2.2 k hk, h.1.2.1, h.1.1⟩
  have := getD_of (d := (([], 0) : mSigT)) hk
  exact h.1.2.2.1 _ (List.mem_of_getElem? this)
theorem tGoodP {t : tT} {c : Bool} (h : (tNeed c t).2.2 = true) : c = true := by
  unfold tNeed at h
  cases c with
  | true => rfl
  | false => rw [Bool.and_false] at h; cases h
theorem tTake_g (n : Nat) (t : tT) (h : (tTake n t).2.2.2 = true) : t.2.2 = true := by
  unfold tTake at h
  by_cases q : n = 2
  · rw [if_pos q] at h; exact h
  · rw [if_neg q] at h
    by_cases q2 : t.1.length = tBase t
    · rw [if_pos q2] at h; exact (Bool.and_eq_true_iff.1 h).1
    · rw [if_neg q2] at h; exact (Bool.and_eq_true_iff.1 h).1
theorem tTake_le (n : Nat) (t : tT) (hn : n ≤ 3) : (n = 2 → (tTake n t).1 = 2) := fun q => by unfold tTake; rw [if_pos q]
section One
variable {τ σ s : zS} {B : Nat} {b : Nat → Nat} {e a : Nat} {t : tT} {A : mA} {L : List Nat} {g : mSigT} {K : zS → Prop} {QX : zS → Prop}
theorem sp_o5 (hs : tSt τ σ s B b e a t) (hf : ¬ t.2.1 = []) (h : ∀ s', tSt τ σ s' B b e a (tElse (tClose t)) → K s') : zCT zZM zmX10_closes [.ref 0] s (zQv (fun s6 =>
      vp_in ((s6.1 0 28) - (1 : Int32)) 61 ∧ ∀ s7 : zS, s7 = zsI s6 11 ((s6.1 0 28) - (1 : Int32)).toNatClampNeg (5 : Int32) →
      vp_in ((s7.1 0 28) - (1 : Int32)) 61 ∧ ∀ s8 : zS, s8 = zsI s7 12 ((s7.1 0 28) - (1 : Int32)).toNatClampNeg (vp_nar .boolean (0 : Int32)) →
      vp_in ((s8.1 0 28) - (1 : Int32)) 61 ∧
      ∀ s9 : zS, s9 = zsI s8 0 22 (s8.1 10 ((s8.1 0 28) - (1 : Int32)).toNatClampNeg) →
      zQv K none s9)) QX := by
  refine sp_closes hs hf (fun s6 hs6 => ?_)
  have hf6 : ¬ (tClose t).2.1 = [] := by show ¬ (tTake _ _).2.2.1 = []; rw [tTake_f]; exact hf
  generalize tClose t = t6 at hs6 h hf6
  obtain ⟨T, F, gd⟩ := t6
  cases F with
  | nil => exact absurd rfl hf6
  | cons f r =>
    have g3 : s6.1 0 28 = nI (r.length + 1) := hs6.2.2.2.2.1
    have g4 : r.length + 1 ≤ 61 := hs6.2.2.2.2.2.1
    have a4 : s6.1 10 r.length = nI f.2.2.2.1 := hs6.2.2.2.2.2.2.2.2.2.2.2.1
    have vf : vp_in (nI r.length) 61 := vp_in_nI (by omega) (by decide)
    rw [g3, nI_sub1, nI_clamp (by omega)]
    refine ⟨vf, fun s7 e7 => ?_⟩
    have g37 : s7.1 0 28 = nI (r.length + 1) := by rw [e7, zI1, if_neg (by omega)]; exact g3
    rw [g37, nI_sub1, nI_clamp (by omega)]
    refine ⟨vf, fun s8 e8 => ?_⟩
    have g38 : s8.1 0 28 = nI (r.length + 1) := by rw [e8, zI1, if_neg (by omega)]; exact g37
    have a48 : s8.1 10 r.length = nI f.2.2.2.1 := by rw [e8, zI1, if_neg (by omega), e7, zI1, if_neg (by omega)]; exact a4
    rw [g38, nI_sub1, nI_clamp (by omega), a48]
    refine ⟨vf, fun s9 e9 => h s9 ?_⟩
    have e8 : s8 = zsI s7 12 r.length 0 := by rw [e8]; rfl
    rw [e9, e8, e7]
    exact hs6.els
theorem sp_o11 (hs : tSt τ σ s B b e a t) (hf : ¬ t.2.1 = []) (hl : t.1.length < 16000) (h : ∀ s', tSt τ σ s' B b e a (tEnd (tClose t)) → K s') : zCT zZM zmX10_closes [.ref 0] s (zQv (fun s10 =>
      vp_in ((s10.1 0 28) - (1 : Int32)) 61 ∧
      vp_in ((s10.1 0 28) - (1 : Int32)) 61 ∧
      (((s10.1 11 ((s10.1 0 28) - (1 : Int32)).toNatClampNeg) = (4 : Int32) →
        (((s10.1 9 ((s10.1 0 28) - (1 : Int32)).toNatClampNeg) = (2 : Int32) →
          zCT zZM zmX10_need [.ref 0, .int (1 : Int32)] s10 (zQv (fun s11 =>
            vp_in ((s11.1 0 28) - (1 : Int32)) 61 ∧
            ∀ s12 : zS, s12 = zsI s11 0 22 (s11.1 10 ((s11.1 0 28) - (1 : Int32)).toNatClampNeg) →
            ∀ s13 : zS, s13 = zsI s12 0 28 ((s12.1 0 28) - (1 : Int32)) →
            zCT zZM zmX10_gives [.ref 0, .int (s10.1 9 ((s10.1 0 28) - (1 : Int32)).toNatClampNeg)] s13 (zQv (fun s14 =>
              zQv K none s14)) QX)) QX) ∧ (¬ (s10.1 9 ((s10.1 0 28) - (1 : Int32)).toNatClampNeg) = (2 : Int32) →
          zCT zZM zmX10_need [.ref 0, .int (0 : Int32)] s10 (zQv (fun s15 =>
            vp_in ((s15.1 0 28) - (1 : Int32)) 61 ∧
            ∀ s16 : zS, s16 = zsI s15 0 22 (s15.1 10 ((s15.1 0 28) - (1 : Int32)).toNatClampNeg) →
            ∀ s17 : zS, s17 = zsI s16 0 28 ((s16.1 0 28) - (1 : Int32)) →
            zCT zZM zmX10_gives [.ref 0, .int (s10.1 9 ((s10.1 0 28) - (1 : Int32)).toNatClampNeg)] s17 (zQv (fun s18 =>
              zQv K none s18)) QX)) QX))) ∧ (¬ (s10.1 11 ((s10.1 0 28) - (1 : Int32)).toNatClampNeg) = (4 : Int32) →
        zCT zZM zmX10_need [.ref 0, .int (1 : Int32)] s10 (zQv (fun s19 =>
          vp_in ((s19.1 0 28) - (1 : Int32)) 61 ∧
          ∀ s20 : zS, s20 = zsI s19 0 22 (s19.1 10 ((s19.1 0 28) - (1 : Int32)).toNatClampNeg) →
          ∀ s21 : zS, s21 = zsI s20 0 28 ((s20.1 0 28) - (1 : Int32)) →
          zCT zZM zmX10_gives [.ref 0, .int (s10.1 9 ((s10.1 0 28) - (1 : Int32)).toNatClampNeg)] s21 (zQv (fun s22 =>
            zQv K none s22)) QX)) QX)))) QX := by
  refine sp_closes hs hf (fun s6 hs6 => ?_)
  have hf6 : ¬ (tClose t).2.1 = [] := by show ¬ (tTake _ _).2.2.1 = []; rw [tTake_f]; exact hf
  have hl6 : (tClose t).1.length < 16000 := Nat.lt_of_le_of_lt (tTake_len (tRes t) t) hl
  generalize tClose t = t6 at hs6 h hf6 hl6
  obtain ⟨T, F, gd⟩ := t6
  cases F with
  | nil => exact absurd rfl hf6
  | cons f r =>
    have g3 : s6.1 0 28 = nI (r.length + 1) := hs6.2.2.2.2.1
    have g4 : r.length + 1 ≤ 61 := hs6.2.2.2.2.2.1
    obtain ⟨a1, a2, a3, a4, a5, a6, a7, a8, a9, a10⟩ := hs6.2.2.2.2.2.2.2.2
    have a9 : f.2.2.2.1 ≤ T.length := a9
    have hl6 : T.length < 16000 := hl6
    have vf : vp_in (nI r.length) 61 := vp_in_nI (by omega) (by decide)
    have c4 : nI f.1 = (4 : Int32) ↔ f.1 = 4 := nI_eq (b := 4) (by omega) (by decide)
    have c2 : nI f.2.2.1 = (2 : Int32) ↔ f.2.2.1 = 2 := nI_eq (b := 2) (by omega) (by decide)
    have fin : ∀ (c : Bool) s11, c = (decide (¬ f.1 = 4) || decide (f.2.2.1 = 2)) → tSt τ σ s11 B b e a (tNeed c (T, f :: r, gd)) → vp_in ((s11.1 0 28) - (1 : Int32)) 61 ∧
            ∀ s12 : zS, s12 = zsI s11 0 22 (s11.1 10 ((s11.1 0 28) - (1 : Int32)).toNatClampNeg) →
            ∀ s13 : zS, s13 = zsI s12 0 28 ((s12.1 0 28) - (1 : Int32)) →
            zCT zZM zmX10_gives [.ref 0, .int (nI f.2.2.1)] s13 (zQv (fun s14 => zQv K none s14)) QX := by
      intro c s11 hc hs11
      have g31 : s11.1 0 28 = nI (r.length + 1) := hs11.2.2.2.2.1
      have a41 : s11.1 10 r.length = nI f.2.2.2.1 := hs11.2.2.2.2.2.2.2.2.2.2.2.1
      rw [g31, nI_sub1, nI_clamp (by omega), a41]
      refine ⟨vf, fun s12 e12 s13 e13 => ?_⟩
      have g32 : s12.1 0 28 = nI (r.length + 1) := by rw [e12, zI1, if_neg (by omega)]; exact g31
      rw [g32, nI_sub1] at e13
      have hp := hs11.pop
      rw [← e12, ← e13] at hp
      refine sp_gives hp (by omega) (by show (T.drop _).length < 16000; rw [List.length_drop]; omega) (fun s14 hs14 => h s14 ?_)
      rw [hc] at hs14
      exact hs14
    rw [g3, nI_sub1, nI_clamp (by omega), a1, a3, c4, c2]
    refine ⟨vf, vf, fun q => ⟨fun q2 => ?_, fun q2 => ?_⟩, fun q => ?_⟩
    · exact sp_need (c := true) hs6 rfl (fun s11 hs11 => fin true s11 (by simp [q2]) hs11)
    · exact sp_need (c := false) hs6 rfl (fun s11 hs11 => fin false s11 (by simp [q, q2]) hs11)
    · exact sp_need (c := true) hs6 rfl (fun s11 hs11 => fin true s11 (by simp [q]) hs11)
end One
