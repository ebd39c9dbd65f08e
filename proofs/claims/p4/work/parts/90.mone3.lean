/-! the reference's typing of calls, select, locals, globals -/
theorem tSt.g {τ σ s : zS} {B : Nat} {b : Nat → Nat} {e a : Nat} {t : tT} (h : tSt τ σ s B b e a t) : s.1 0 31 = bI t.2.2 := h.2.2.2.2.2.2.1
section One
variable {τ σ s : zS} {B : Nat} {b : Nat → Nat} {e a : Nat} {t : tT} {A : mA} {L : List Nat} {g : mSigT} {K : zS → Prop} {QX : zS → Prop}
theorem tIf_t {c : tT} {f : tT → tT} (h : c.2.2 = true) : tIf c f = f c := if_pos h
theorem tIf_f {c : tT} {f : tT → tT} (h : ¬ c.2.2 = true) : tIf c f = c := if_neg h
theorem sp_o16 {u : Nat × Nat} (hs : tSt τ σ s B b e a t) (hr : mRep σ B A) (hF : ∀ f, f < nFun A → funSig A f < (aS A).length) (hf : ¬ t.2.1 = []) (hl : t.1.length < 16000) (hu : mU b e a = .ok u) (h : ∀ s', tSt τ σ s' B b e u.2 (tCall A u.1 t) → K s') :     zCT zZM zmX10_u [.ref 0] s (zQl (fun r46 s45 =>
      zCT zZM zmX10_functionsOf [.ref 1] s45 (zQi (fun r48 s47 =>
        (((r48.toInt64) ≤ r46 →
          zCT zZM zmX10_need [.ref 0, .int (0 : Int32)] s47 (zQv (fun s49 =>
            (((s49.1 0 31) = 0 →
              zQv K none s49) ∧ (¬ (s49.1 0 31) = 0 →
              zCT zZM zmX10_sigOf [.ref 1, .int (r46.toInt32)] s49 (zQi (fun r51 s50 =>
                zCT zZM zmX10_calls [.ref 0, .int r51] s50 (zQv (fun s52 =>
                  zQv K none s52)) QX)) QX)))) QX) ∧ (¬ (r48.toInt64) ≤ r46 →
          zCT zZM zmX10_need [.ref 0, .int (1 : Int32)] s47 (zQv (fun s53 =>
            (((s53.1 0 31) = 0 →
              zQv K none s53) ∧ (¬ (s53.1 0 31) = 0 →
              zCT zZM zmX10_sigOf [.ref 1, .int (r46.toInt32)] s53 (zQi (fun r55 s54 =>
                zCT zZM zmX10_calls [.ref 0, .int r55] s54 (zQv (fun s56 =>
                  zQv K none s56)) QX)) QX)))) QX)))) QX)) QX := by
  have u1 := mU_in hu hs.1.2.2.2.2.1
  have u2 := mU_lt hu
  refine sp_u hs.1 ?_
  rw [hu, mW_ok]
  have hs1 := hs.at u1.2
  refine sp_functionsOf (hs1.rep hr) ?_
  have hn : nFun A ≤ 96 := by
    have := (mRep_55 hr (k := 0) (by decide)).2
    have := hr.2.2.1.2.1
    unfold nFun; omega
  have c1 : (nI (nFun A)).toInt64 ≤ lN u.1 ↔ nFun A ≤ u.1 := by rw [nI_l (by omega)]; exact lN_leB (by omega) (by omega)
  unfold tCall at h
  have fin : ∀ (c : Bool) s5, c = decide (u.1 < nFun A) → tSt τ σ s5 B b e u.2 (tNeed c t) → (((s5.1 0 31) = 0 → zQv K none s5) ∧ (¬ (s5.1 0 31) = 0 →
              zCT zZM zmX10_sigOf [.ref 1, .int ((lN u.1).toInt32)] s5 (zQi (fun r51 s50 =>
                zCT zZM zmX10_calls [.ref 0, .int r51] s50 (zQv (fun s52 =>
                  zQv K none s52)) QX)) QX)) := by
    intro c s5 hc hs5
    rw [← hc] at h
    rw [hs5.g, bI_0]
    refine ⟨fun q => ?_, fun q => ?_⟩
    · rw [tIf_f (by rw [q]; decide)] at h; exact h s5 hs5
    · have q : (tNeed c t).2.2 = true := by simpa using q
      rw [tIf_t q] at h
      have hk : u.1 < nFun A := by have := tGoodP q; rw [hc] at this; exact of_decide_eq_true this
      have hk2 := hF _ hk
      rw [lN_i]
      refine sp_sigOf (hs5.rep hr) hk hk2 ?_
      exact sp_calls hs5 (mRep_S hr hk2).1 hf hl h
  rw [c1]
  refine ⟨fun q => ?_, fun q => ?_⟩
  · exact sp_need (c := false) hs1 rfl (fun s5 hs5 => fin false s5 (decide_eq_false (by omega)).symm hs5)
  · exact sp_need (c := true) hs1 rfl (fun s5 hs5 => fin true s5 (decide_eq_true (by omega)).symm hs5)
theorem sp_o17 {u : Nat × Nat} {z : Nat} (hs : tSt τ σ s B b e a t) (hr : mRep σ B A) (hf : ¬ t.2.1 = []) (hl : t.1.length < 16000) (hu : mU b e a = .ok u) (hz : mNeed b e 0 u.2 = .ok z) (h : ∀ s', tSt τ σ s' B b e z (tCallI A u.1 t) → K s') :     zCT zZM zmX10_u [.ref 0] s (zQl (fun r58 s57 =>
      zCT zZM zmX10_needOctet [.ref 0, .int (0 : Int32)] s57 (zQv (fun s59 =>
        ((((s59.1 1 2).toInt64) ≤ r58 →
          zCT zZM zmX10_need [.ref 0, .int (0 : Int32)] s59 (zQv (fun s60 =>
            zCT zZM zmX10_takes [.ref 0, .int (0 : Int32)] s60 (zQi (fun r62 s61 =>
              (((s61.1 0 31) = 0 →
                zQv K none s61) ∧ (¬ (s61.1 0 31) = 0 →
                vp_in (r58.toInt32) 64 ∧
                zCT zZM zmX10_calls [.ref 0, .int (s61.1 19 (r58.toInt32).toNatClampNeg)] s61 (zQv (fun s63 =>
                  zQv K none s63)) QX)))) QX)) QX) ∧ (¬ ((s59.1 1 2).toInt64) ≤ r58 →
          zCT zZM zmX9_has [.ref 1, .int (1 : Int32)] s59 (zQi (fun r65 s64 =>
            ((r65 = 0 →
              zCT zZM zmX10_need [.ref 0, .int (0 : Int32)] s64 (zQv (fun s66 =>
                zCT zZM zmX10_takes [.ref 0, .int (0 : Int32)] s66 (zQi (fun r68 s67 =>
                  (((s67.1 0 31) = 0 →
                    zQv K none s67) ∧ (¬ (s67.1 0 31) = 0 →
                    vp_in (r58.toInt32) 64 ∧
                    zCT zZM zmX10_calls [.ref 0, .int (s67.1 19 (r58.toInt32).toNatClampNeg)] s67 (zQv (fun s69 =>
                      zQv K none s69)) QX)))) QX)) QX) ∧ (¬ r65 = 0 →
              zCT zZM zmX10_need [.ref 0, .int (1 : Int32)] s64 (zQv (fun s70 =>
                zCT zZM zmX10_takes [.ref 0, .int (0 : Int32)] s70 (zQi (fun r72 s71 =>
                  (((s71.1 0 31) = 0 →
                    zQv K none s71) ∧ (¬ (s71.1 0 31) = 0 →
                    vp_in (r58.toInt32) 64 ∧
                    zCT zZM zmX10_calls [.ref 0, .int (s71.1 19 (r58.toInt32).toNatClampNeg)] s71 (zQv (fun s73 =>
                      zQv K none s73)) QX)))) QX)) QX)))) QX)))) QX)) QX := by
  have u1 := mU_in hu hs.1.2.2.2.2.1
  have u2 := mU_lt hu
  have z1 := mNeed_in hz
  refine sp_u hs.1 ?_
  rw [hu, mW_ok]
  have hs1 := hs.at u1.2
  refine sp_needOctet (v := 0) hs1.1 (by decide) ?_
  rw [hz, mW_ok]
  have hs2 := hs1.at (a' := z) (by omega)
  have hr2 := hs2.rep hr
  have hn := hr.1.2.1
  have c1 : (nI (aS A).length).toInt64 ≤ lN u.1 ↔ (aS A).length ≤ u.1 := by rw [nI_l (by omega)]; exact lN_leB (by omega) (by omega)
  unfold tCallI at h
  have fin : ∀ (c : Bool) s5, c = (decide (u.1 < (aS A).length) && hasK A 1) → tSt τ σ s5 B b e z (tNeed c t) → zCT zZM zmX10_takes [.ref 0, .int (0 : Int32)] s5 (zQi (fun r62 s61 =>
              (((s61.1 0 31) = 0 →
                zQv K none s61) ∧ (¬ (s61.1 0 31) = 0 →
                vp_in ((lN u.1).toInt32) 64 ∧
                zCT zZM zmX10_calls [.ref 0, .int (s61.1 19 ((lN u.1).toInt32).toNatClampNeg)] s61 (zQv (fun s63 =>
                  zQv K none s63)) QX)))) QX := by
    intro c s5 hc hs5
    rw [← hc] at h
    refine sp_takes (n := 0) hs5 (by decide) hf (fun _ s6 hs6 => ?_)
    rw [hs6.g, bI_0]
    refine ⟨fun q => ?_, fun q => ?_⟩
    · rw [tIf_f (by rw [q]; decide)] at h; exact h s6 hs6
    · have q : (tTake 0 (tNeed c t)).2.2.2 = true := by simpa using q
      rw [tIf_t q] at h
      have hk : u.1 < (aS A).length := by have := tGoodP (tTake_g _ _ q); rw [hc] at this; exact of_decide_eq_true (Bool.and_eq_true_iff.1 this).1
      have hS := mRep_S (hs6.rep hr) hk
      rw [lN_i, nI_clamp (by omega), hS.2.1]
      refine ⟨vp_in_nI (by omega) (by decide), ?_⟩
      exact sp_calls hs6 hS.1 (by rw [tTake_f]; exact hf) (Nat.lt_of_le_of_lt (tTake_len _ _) hl) h
  rw [hr2.1.1, c1]
  refine ⟨fun q => ?_, fun q => ?_⟩
  · exact sp_need (c := false) hs2 rfl (fun s5 hs5 => fin false s5 (by rw [decide_eq_false (by omega)]; rfl) hs5)
  · refine sp_has (k := 1) hr2 (Or.inl rfl) ?_
    rw [bI_0]
    refine ⟨fun q2 => ?_, fun q2 => ?_⟩
    · exact sp_need (c := false) hs2 rfl (fun s5 hs5 => fin false s5 (by rw [q2, Bool.and_false]) hs5)
    · have q2 : hasK A 1 = true := by simpa using q2
      exact sp_need (c := true) hs2 rfl (fun s5 hs5 => fin true s5 (by rw [q2, decide_eq_true (by omega)]; rfl) hs5)
theorem sp_o27 (hs : tSt τ σ s B b e a t) (hf : ¬ t.2.1 = []) (hl : t.1.length < 16000) (h : ∀ s', tSt τ σ s' B b e a (tSel t) → K s') :     zCT zZM zmX10_takes [.ref 0, .int (0 : Int32)] s (zQi (fun r77 s76 =>
      zCT zZM zmX10_takes [.ref 0, .int (3 : Int32)] s76 (zQi (fun r79 s78 =>
        zCT zZM zmX10_takes [.ref 0, .int (3 : Int32)] s78 (zQi (fun r81 s80 =>
          ((r79 = r81 →
            zCT zZM zmX10_need [.ref 0, .int (1 : Int32)] s80 (zQv (fun s82 =>
              ((r79 = (3 : Int32) →
                zCT zZM zmX10_gives [.ref 0, .int r81] s82 (zQv (fun s83 =>
                  zQv K none s83)) QX) ∧ (¬ r79 = (3 : Int32) →
                zCT zZM zmX10_gives [.ref 0, .int r79] s82 (zQv (fun s84 =>
                  zQv K none s84)) QX)))) QX) ∧ (¬ r79 = r81 →
            ((r79 = (3 : Int32) →
              zCT zZM zmX10_need [.ref 0, .int (1 : Int32)] s80 (zQv (fun s85 =>
                ((r79 = (3 : Int32) →
                  zCT zZM zmX10_gives [.ref 0, .int r81] s85 (zQv (fun s86 =>
                    zQv K none s86)) QX) ∧ (¬ r79 = (3 : Int32) →
                  zCT zZM zmX10_gives [.ref 0, .int r79] s85 (zQv (fun s87 =>
                    zQv K none s87)) QX)))) QX) ∧ (¬ r79 = (3 : Int32) →
              ((r81 = (3 : Int32) →
                zCT zZM zmX10_need [.ref 0, .int (1 : Int32)] s80 (zQv (fun s88 =>
                  ((r79 = (3 : Int32) →
                    zCT zZM zmX10_gives [.ref 0, .int r81] s88 (zQv (fun s89 =>
                      zQv K none s89)) QX) ∧ (¬ r79 = (3 : Int32) →
                    zCT zZM zmX10_gives [.ref 0, .int r79] s88 (zQv (fun s90 =>
                      zQv K none s90)) QX)))) QX) ∧ (¬ r81 = (3 : Int32) →
                zCT zZM zmX10_need [.ref 0, .int (0 : Int32)] s80 (zQv (fun s91 =>
                  ((r79 = (3 : Int32) →
                    zCT zZM zmX10_gives [.ref 0, .int r81] s91 (zQv (fun s92 =>
                      zQv K none s92)) QX) ∧ (¬ r79 = (3 : Int32) →
                    zCT zZM zmX10_gives [.ref 0, .int r79] s91 (zQv (fun s93 =>
                      zQv K none s93)) QX)))) QX)))))))) QX)) QX)) QX := by
  refine sp_takes (n := 0) hs (by decide) hf (fun _ s1 hs1 => ?_)
  have hf1 : ¬ (tTake 0 t).2.2.1 = [] := by rw [tTake_f]; exact hf
  refine sp_takes (n := 3) hs1 (by decide) hf1 (fun hp s2 hs2 => ?_)
  have hf2 : ¬ (tTake 3 (tTake 0 t).2).2.2.1 = [] := by rw [tTake_f]; exact hf1
  refine sp_takes (n := 3) hs2 (by decide) hf2 (fun hq s3 hs3 => ?_)
  have hl3 : (tTake 3 (tTake 3 (tTake 0 t).2).2).2.1.length < 16000 := Nat.lt_of_le_of_lt (Nat.le_trans (tTake_len _ _) (Nat.le_trans (tTake_len _ _) (tTake_len _ _))) hl
  have h : ∀ s', tSt τ σ s' B b e a (tGive (if (tTake 3 (tTake 0 t).2).1 = 3 then (tTake 3 (tTake 3 (tTake 0 t).2).2).1 else (tTake 3 (tTake 0 t).2).1) (tNeed (decide ((tTake 3 (tTake 0 t).2).1 = (tTake 3 (tTake 3 (tTake 0 t).2).2).1) || decide ((tTake 3 (tTake 0 t).2).1 = 3) || decide ((tTake 3 (tTake 3 (tTake 0 t).2).2).1 = 3)) (tTake 3 (tTake 3 (tTake 0 t).2).2).2)) → K s' := h
  generalize (tTake 3 (tTake 3 (tTake 0 t).2).2).2 = t3 at hs3 h hl3
  generalize (tTake 3 (tTake 3 (tTake 0 t).2).2).1 = q at hq h ⊢
  generalize (tTake 3 (tTake 0 t).2).1 = p at hp h ⊢
  have c1 : nI p = nI q ↔ p = q := nI_eq (by omega) (by omega)
  have c2 : nI p = (3 : Int32) ↔ p = 3 := nI_eq (b := 3) (by omega) (by decide)
  have c3 : nI q = (3 : Int32) ↔ q = 3 := nI_eq (b := 3) (by omega) (by decide)
  have fin : ∀ (c : Bool) s5, c = (decide (p = q) || decide (p = 3) || decide (q = 3)) → tSt τ σ s5 B b e a (tNeed c t3) → (p = 3 → zCT zZM zmX10_gives [.ref 0, .int (nI q)] s5 (zQv (fun s83 => zQv K none s83)) QX) ∧ (¬ p = 3 → zCT zZM zmX10_gives [.ref 0, .int (nI p)] s5 (zQv (fun s84 => zQv K none s84)) QX) := by
    intro c s5 hc hs5
    rw [← hc] at h
    refine ⟨fun z => ?_, fun z => ?_⟩
    · rw [if_pos z] at h; exact sp_gives hs5 hq hl3 h
    · rw [if_neg z] at h; exact sp_gives hs5 hp hl3 h
  rw [c1, c2, c3]
  refine ⟨fun z => ?_, fun z => ⟨fun z2 => ?_, fun z2 => ⟨fun z3 => ?_, fun z3 => ?_⟩⟩⟩
  · exact sp_need (c := true) hs3 rfl (fun s5 hs5 => fin true s5 (by simp [z]) hs5)
  · exact sp_need (c := true) hs3 rfl (fun s5 hs5 => fin true s5 (by simp [z2]) hs5)
  · exact sp_need (c := true) hs3 rfl (fun s5 hs5 => fin true s5 (by simp [z3]) hs5)
  · exact sp_need (c := false) hs3 rfl (fun s5 hs5 => fin false s5 (by simp [z, z2, z3]) hs5)
theorem sp_o32 {op : Nat} {u : Nat × Nat} (hs : tSt τ σ s B b e a t) (hop : op = 32 ∨ op = 33 ∨ op = 34) (hlr : lR σ L) (hL : ∀ i, i < L.length → L.getD i 0 ≤ 1) (hf : ¬ t.2.1 = []) (hl : t.1.length < 16000) (hu : mU b e a = .ok u) (h : ∀ s', tSt τ σ s' B b e u.2 (tLoc L op u.1 t) → K s') :     zCT zZM zmX10_u [.ref 0] s (zQl (fun r95 s94 =>
      ((((s94.1 0 30).toInt64) ≤ r95 →
        zCT zZM zmX10_need [.ref 0, .int (0 : Int32)] s94 (zQv (fun s96 =>
          (((s96.1 0 31) = 0 →
            zQv K none s96) ∧ (¬ (s96.1 0 31) = 0 →
            (((nI op) ≤ (32 : Int32) →
              PX10_checkOne_761 (zQv K) QX (nI op) r95 s96) ∧ (¬ (nI op) ≤ (32 : Int32) →
              vp_in (r95.toInt32) 80 ∧
              zCT zZM zmX10_takes [.ref 0, .int (s96.1 13 (r95.toInt32).toNatClampNeg)] s96 (zQi (fun r98 s97 =>
                PX10_checkOne_761 (zQv K) QX (nI op) r95 s97)) QX)))))) QX) ∧ (¬ ((s94.1 0 30).toInt64) ≤ r95 →
        zCT zZM zmX10_need [.ref 0, .int (1 : Int32)] s94 (zQv (fun s99 =>
          (((s99.1 0 31) = 0 →
            zQv K none s99) ∧ (¬ (s99.1 0 31) = 0 →
            (((nI op) ≤ (32 : Int32) →
              PX10_checkOne_761 (zQv K) QX (nI op) r95 s99) ∧ (¬ (nI op) ≤ (32 : Int32) →
              vp_in (r95.toInt32) 80 ∧
              zCT zZM zmX10_takes [.ref 0, .int (s99.1 13 (r95.toInt32).toNatClampNeg)] s99 (zQi (fun r101 s100 =>
                PX10_checkOne_761 (zQv K) QX (nI op) r95 s100)) QX)))))) QX)))) QX := by
  have u1 := mU_in hu hs.1.2.2.2.2.1
  have u2 := mU_lt hu
  refine sp_u hs.1 ?_
  rw [hu, mW_ok]
  have hs1 := hs.at u1.2
  have hn := hlr.2.1
  have c1 : (nI L.length).toInt64 ≤ lN u.1 ↔ L.length ≤ u.1 := by rw [nI_l (by omega)]; exact lN_leB (by omega) (by omega)
  have c32 : nI op ≤ (32 : Int32) ↔ op ≤ 32 := nI_leI (b := 32) (by omega) (by decide)
  have c33 : nI op = (33 : Int32) ↔ op = 33 := nI_eq (b := 33) (by omega) (by decide)
  unfold tLoc at h
  have last : ∀ s7 t7, u.1 < L.length → ¬ t7.2.1 = [] → t7.1.length < 16000 → tSt τ σ s7 B b e u.2 t7 → (∀ s', tSt τ σ s' B b e u.2 (if op = 33 then t7 else tGive (L.getD u.1 0) t7) → K s') → PX10_checkOne_761 (zQv K) QX (nI op) (lN u.1) s7 := by
    intro s7 t7 hk hf7 hl7 hs7 h
    unfold PX10_checkOne_761
    have hr7 := hlr.of hs7.2.1
    rw [c33, lN_i, nI_clamp (by omega), hr7.2.2 _ hk]
    refine ⟨fun q => ?_, fun q => ⟨vp_in_nI (by omega) (by decide), ?_⟩⟩
    · rw [if_pos q] at h; exact h s7 hs7
    · rw [if_neg q] at h; exact sp_gives hs7 (by have := hL _ hk; omega) hl7 h
  have fin : ∀ (c : Bool) s5, c = decide (u.1 < L.length) → tSt τ σ s5 B b e u.2 (tNeed c t) → (((s5.1 0 31) = 0 →
            zQv K none s5) ∧ (¬ (s5.1 0 31) = 0 →
            (((nI op) ≤ (32 : Int32) →
              PX10_checkOne_761 (zQv K) QX (nI op) (lN u.1) s5) ∧ (¬ (nI op) ≤ (32 : Int32) →
              vp_in ((lN u.1).toInt32) 80 ∧
              zCT zZM zmX10_takes [.ref 0, .int (s5.1 13 ((lN u.1).toInt32).toNatClampNeg)] s5 (zQi (fun r98 s97 =>
                PX10_checkOne_761 (zQv K) QX (nI op) (lN u.1) s97)) QX)))) := by
    intro c s5 hc hs5
    rw [← hc] at h
    rw [hs5.g, bI_0]
    refine ⟨fun q => ?_, fun q => ?_⟩
    · rw [tIf_f (by rw [q]; decide)] at h; exact h s5 hs5
    · have q : (tNeed c t).2.2 = true := by simpa using q
      rw [tIf_t q] at h
      have hk : u.1 < L.length := by have := tGoodP q; rw [hc] at this; exact of_decide_eq_true this
      rw [c32, lN_i, nI_clamp (by omega), (hlr.of hs5.2.1).2.2 _ hk]
      refine ⟨fun q2 => ?_, fun q2 => ⟨vp_in_nI (by omega) (by decide), ?_⟩⟩
      · refine last s5 (tNeed c t) hk hf hl hs5 (fun s' hs' => h s' ?_)
        show tSt τ σ s' B b e u.2 (if op = 33 then (if op = 32 then _ else _) else tGive _ (if op = 32 then _ else _))
        rw [if_pos (by omega : op = 32)]
        exact hs'
      · refine sp_takes hs5 (by have := hL _ hk; omega) hf (fun _ s6 hs6 => ?_)
        refine last s6 (tTake (L.getD u.1 0) (tNeed c t)).2 hk (by rw [tTake_f]; exact hf) (Nat.lt_of_le_of_lt (tTake_len _ _) hl) hs6 (fun s' hs' => h s' ?_)
        show tSt τ σ s' B b e u.2 (if op = 33 then (if op = 32 then _ else _) else tGive _ (if op = 32 then _ else _))
        rw [if_neg (by omega : ¬ op = 32)]
        exact hs'
  have g30 : ((mAt s (B + u.2)).1 0 30) = nI L.length := (hlr.of hs1.2.1).1
  rw [g30, c1]
  refine ⟨fun q => ?_, fun q => ?_⟩
  · exact sp_need (c := false) hs1 rfl (fun s5 hs5 => fin false s5 (decide_eq_false (by omega)).symm hs5)
  · exact sp_need (c := true) hs1 rfl (fun s5 hs5 => fin true s5 (decide_eq_true (by omega)).symm hs5)
theorem sp_o35 {op : Nat} {u : Nat × Nat} (hs : tSt τ σ s B b e a t) (hop : op = 35 ∨ op = 36) (hr : mRep σ B A) (hf : ¬ t.2.1 = []) (hl : t.1.length < 16000) (hu : mU b e a = .ok u) (h : ∀ s', tSt τ σ s' B b e u.2 (tGlo A op u.1 t) → K s') :     zCT zZM zmX10_u [.ref 0] s (zQl (fun r103 s102 =>
      zCT zZM zmX10_globalsOf [.ref 1] s102 (zQi (fun r105 s104 =>
        (((r105.toInt64) ≤ r103 →
          zCT zZM zmX10_need [.ref 0, .int (0 : Int32)] s104 (zQv (fun s106 =>
            (((s106.1 0 31) = 0 →
              zQv K none s106) ∧ (¬ (s106.1 0 31) = 0 →
              (((nI op) = (35 : Int32) →
                zCT zZM zmX10_typeOf [.ref 1, .int (r103.toInt32)] s106 (zQi (fun r108 s107 =>
                  zCT zZM zmX10_gives [.ref 0, .int r108] s107 (zQv (fun s109 =>
                    zQv K none s109)) QX)) QX) ∧ (¬ (nI op) = (35 : Int32) →
                zCT zZM zmX10_typeOf [.ref 1, .int (r103.toInt32)] s106 (zQi (fun r111 s110 =>
                  zCT zZM zmX10_takes [.ref 0, .int r111] s110 (zQi (fun r113 s112 =>
                    zQv K none s112)) QX)) QX)))))) QX) ∧ (¬ (r105.toInt64) ≤ r103 →
          (((nI op) = (35 : Int32) →
            zCT zZM zmX10_need [.ref 0, .int (1 : Int32)] s104 (zQv (fun s114 =>
              (((s114.1 0 31) = 0 →
                zQv K none s114) ∧ (¬ (s114.1 0 31) = 0 →
                (((nI op) = (35 : Int32) →
                  zCT zZM zmX10_typeOf [.ref 1, .int (r103.toInt32)] s114 (zQi (fun r116 s115 =>
                    zCT zZM zmX10_gives [.ref 0, .int r116] s115 (zQv (fun s117 =>
                      zQv K none s117)) QX)) QX) ∧ (¬ (nI op) = (35 : Int32) →
                  zCT zZM zmX10_typeOf [.ref 1, .int (r103.toInt32)] s114 (zQi (fun r119 s118 =>
                    zCT zZM zmX10_takes [.ref 0, .int r119] s118 (zQi (fun r121 s120 =>
                      zQv K none s120)) QX)) QX)))))) QX) ∧ (¬ (nI op) = (35 : Int32) →
            zCT zZM zmX10_isChanged [.ref 1, .int (r103.toInt32)] s104 (zQi (fun r123 s122 =>
              ((r123 = 0 →
                zCT zZM zmX10_need [.ref 0, .int (0 : Int32)] s122 (zQv (fun s124 =>
                  (((s124.1 0 31) = 0 →
                    zQv K none s124) ∧ (¬ (s124.1 0 31) = 0 →
                    (((nI op) = (35 : Int32) →
                      zCT zZM zmX10_typeOf [.ref 1, .int (r103.toInt32)] s124 (zQi (fun r126 s125 =>
                        zCT zZM zmX10_gives [.ref 0, .int r126] s125 (zQv (fun s127 =>
                          zQv K none s127)) QX)) QX) ∧ (¬ (nI op) = (35 : Int32) →
                      zCT zZM zmX10_typeOf [.ref 1, .int (r103.toInt32)] s124 (zQi (fun r129 s128 =>
                        zCT zZM zmX10_takes [.ref 0, .int r129] s128 (zQi (fun r131 s130 =>
                          zQv K none s130)) QX)) QX)))))) QX) ∧ (¬ r123 = 0 →
                zCT zZM zmX10_need [.ref 0, .int (1 : Int32)] s122 (zQv (fun s132 =>
                  (((s132.1 0 31) = 0 →
                    zQv K none s132) ∧ (¬ (s132.1 0 31) = 0 →
                    (((nI op) = (35 : Int32) →
                      zCT zZM zmX10_typeOf [.ref 1, .int (r103.toInt32)] s132 (zQi (fun r134 s133 =>
                        zCT zZM zmX10_gives [.ref 0, .int r134] s133 (zQv (fun s135 =>
                          zQv K none s135)) QX)) QX) ∧ (¬ (nI op) = (35 : Int32) →
                      zCT zZM zmX10_typeOf [.ref 1, .int (r103.toInt32)] s132 (zQi (fun r137 s136 =>
                        zCT zZM zmX10_takes [.ref 0, .int r137] s136 (zQi (fun r139 s138 =>
                          zQv K none s138)) QX)) QX)))))) QX)))) QX)))))) QX)) QX := by
  have u1 := mU_in hu hs.1.2.2.2.2.1
  have u2 := mU_lt hu
  refine sp_u hs.1 ?_
  rw [hu, mW_ok]
  have hs1 := hs.at u1.2
  refine sp_globalsOf (hs1.rep hr) ?_
  have hn : nGlo A ≤ 64 := by
    have := (mRep_55 hr (k := 3) (by decide)).2
    have := hr.2.2.2.2.2.1.2.1
    unfold nGlo; omega
  have c1 : (nI (nGlo A)).toInt64 ≤ lN u.1 ↔ nGlo A ≤ u.1 := by rw [nI_l (by omega)]; exact lN_leB (by omega) (by omega)
  have c35 : nI op = (35 : Int32) ↔ op = 35 := nI_eq (b := 35) (by omega) (by decide)
  unfold tGlo at h
  have fin : ∀ (c : Bool) s5, c = (decide (u.1 < nGlo A) && (decide (op = 35) || decide (gloC A u.1 = 1))) → tSt τ σ s5 B b e u.2 (tNeed c t) → (((s5.1 0 31) = 0 →
              zQv K none s5) ∧ (¬ (s5.1 0 31) = 0 →
              ((op = 35 →
                zCT zZM zmX10_typeOf [.ref 1, .int ((lN u.1).toInt32)] s5 (zQi (fun r108 s107 =>
                  zCT zZM zmX10_gives [.ref 0, .int r108] s107 (zQv (fun s109 =>
                    zQv K none s109)) QX)) QX) ∧ (¬ op = 35 →
                zCT zZM zmX10_typeOf [.ref 1, .int ((lN u.1).toInt32)] s5 (zQi (fun r111 s110 =>
                  zCT zZM zmX10_takes [.ref 0, .int r111] s110 (zQi (fun r113 s112 =>
                    zQv K none s112)) QX)) QX)))) := by
    intro c s5 hc hs5
    rw [← hc] at h
    rw [hs5.g, bI_0]
    refine ⟨fun q => ?_, fun q => ?_⟩
    · rw [tIf_f (by rw [q]; decide)] at h; exact h s5 hs5
    · have q : (tNeed c t).2.2 = true := by simpa using q
      rw [tIf_t q] at h
      have hk : u.1 < nGlo A := by have := tGoodP q; rw [hc] at this; exact of_decide_eq_true (Bool.and_eq_true_iff.1 this).1
      rw [lN_i]
      refine ⟨fun q2 => ?_, fun q2 => ?_⟩
      · rw [if_pos q2] at h
        refine sp_typeOf (hs5.rep hr) hk (fun h1 => ?_)
        exact sp_gives hs5 (by omega) hl h
      · rw [if_neg q2] at h
        refine sp_typeOf (hs5.rep hr) hk (fun h1 => ?_)
        exact sp_takes hs5 (by omega) hf (fun _ s6 hs6 => h s6 hs6)
  rw [c1, c35]
  refine ⟨fun q => ?_, fun q => ⟨fun q2 => ?_, fun q2 => ?_⟩⟩
  · exact sp_need (c := false) hs1 rfl (fun s5 hs5 => fin false s5 (by rw [decide_eq_false (by omega)]; rfl) hs5)
  · exact sp_need (c := true) hs1 rfl (fun s5 hs5 => fin true s5 (by rw [decide_eq_true (by omega), decide_eq_true q2]; rfl) hs5)
  · rw [lN_i]
    refine sp_isChanged (hs1.rep hr) (by omega) (fun h1 => ?_)
    have c0 : nI (gloC A u.1) = (0 : Int32) ↔ gloC A u.1 = 0 := nI_eq (b := 0) (by omega) (by decide)
    rw [← lN_i (n := u.1), c0]
    refine ⟨fun q3 => ?_, fun q3 => ?_⟩
    · exact sp_need (c := false) hs1 rfl (fun s5 hs5 => fin false s5 (by rw [decide_eq_false q2, decide_eq_false (show ¬ gloC A u.1 = 1 by omega)]; simp) hs5)
    · exact sp_need (c := true) hs1 rfl (fun s5 hs5 => fin true s5 (by rw [decide_eq_true (by omega : u.1 < nGlo A), decide_eq_true (by omega : gloC A u.1 = 1)]; simp) hs5)
end One
