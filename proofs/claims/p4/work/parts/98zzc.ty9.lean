/-- a frame's end, behind its checks -/
def tPop (t : tT) : tT := match t.2.1 with
  | [] => t
  | f :: r => tGive f.2.2.1 (t.1.drop (t.1.length - f.2.2.2.1), r, t.2.2)
/-- close: n frames stand open besides the body's -/
theorem ty_close {s : zS} {n : Nat} {ow : List Nat} {K : zS → Prop} {QX : zS → Prop} (hv : sV s) (hd : s.1 5 5 = nI n) (hn : n ≤ 60) (ho : owC s ow)
    (h : ∀ s', gF [13] s s' → sV s' → s'.1 5 5 = nI n - (1 : Int32) → owC s' ow → s'.1 22 0 = s.1 22 0 → (∀ t, tS s t → t.2.1.length = n + 1 → 1 ≤ n → t.1.length < 16000 → tS s' (tPop t)) → K s') : zCT zZC zmX3_close [.ref 5] s (zQv K) QX := by
  refine rX3_close ?_
  unfold PX3_close_0
  rw [hd, nI_clamp (by omega)]
  have k0 : sR s s := sR.rf hv
  have hd60 : (-1 : Int) ≤ (nI n - (1 : Int32)).toInt ∧ (nI n - (1 : Int32)).toInt ≤ 60 := by
    rw [show (1 : Int32) = nI 1 from rfl, pk_sub_toInt (by omega) (by decide)]; omega
  refine ⟨fun z => absurd z (nI_pos (by omega)), fun _ => ⟨fun z => absurd ((nI_leI (by decide) (by omega)).1 z) (by omega), fun _ => ⟨vp_in_nI (by omega) (by decide), fun s1 e1 => ?_⟩⟩⟩
  have n1 : s1.1 5 5 = nI n := by rw [e1, zI1, if_neg (by omega)]; exact hd
  have k1 : sR s s1 := by rw [e1]; exact k0.i _ (by omega)
  rw [n1, nI_clamp (by omega)]
  refine ⟨vp_in_nI (by omega) (by decide), ?_⟩
  have m22 : s1.1 22 n = s.1 22 n := by rw [e1, zI1, if_neg (by omega)]
  -- what stands behind leave, at s2
  have fin : ∀ s2, tzR s1 s2 → (∀ t, tS s t → t.2.1.length = n + 1 → 1 ≤ n → t.1.length < 16000 → s2.1 5 6 = nI (tPop t).1.length ∧ (tPop t).1.length ≤ 16000 ∧ tsC s2 (tPop t).1 ∧ fsC s2 (tPop t).1.length (tPop t).2.1) → ∀ s3 : zS, s3 = zsI s2 5 5 ((s2.1 5 5) - (1 : Int32)) → K s3 := by
    intro s2 k2 hT s3 e3
    have n2 : s2.1 5 5 = nI n := by rw [(k2.1.1 5 5 (by omega)).1]; exact n1
    rw [n2] at e3
    have r2 : sR s2 s2 := sR.rf k2.2
    have k3 : sR s2 s3 := by rw [e3]; exact r2.d _ hd60
    have q : ∀ c i, ¬ (c = 24 ∨ c = 25 ∨ (c = 5 ∧ (i = 5 ∨ i = 6 ∨ i = 7))) → s3.1 c i = s.1 c i ∧ s3.2 c i = s.2 c i := fun c i z => ⟨by rw [e3, zI1, if_neg (by omega), (k2.1.1 c i (by omega)).1, e1, zI1, if_neg (by omega)], by rw [e3]; show s2.2 c i = _; rw [(k2.1.1 c i (by omega)).2, e1]; rfl⟩
    refine h s3 (fun c i hc => q c i (fun z => hc (m13 (by omega)))) k3.2 (by rw [e3, zI1, if_pos ⟨rfl, rfl⟩]) (owC_q (fun i => (q 21 i (by omega)).1) ho) (q 22 0 (by omega)).1 (fun t hS ht h1n hl => ?_)
    obtain ⟨z1, z2, z3, z4⟩ := hT t hS ht h1n hl
    obtain ⟨f, r, hF⟩ := tS_cons hS
    have hrl : r.length = n := by rw [hF] at ht; simpa using ht
    have eF : (tPop t).2.1 = r := by
      unfold tPop; rw [hF]
      show (tGive f.2.2.1 (t.1.drop (t.1.length - f.2.2.2.1), r, t.2.2)).2.1 = r
      unfold tGive; split <;> rfl
    refine ⟨by rw [e3, zI1, if_neg (by omega)]; exact z1, z2, ?_, ?_, ?_, by rw [e3]; exact tsC_i (fun z => absurd z (by decide)) z3, by rw [e3]; exact fsC_i (fun z => absurd z (by omega)) z4⟩
    · rw [eF]; intro z; rw [z] at hrl; simp at hrl; omega
    · rw [eF]; omega
    · rw [eF, e3, zI1, if_pos ⟨rfl, rfl⟩, hrl, show (1 : Int32) = nI 1 from rfl, pk_sub h1n]
  -- the innermost frame's cells
  have top : ∀ t, tS s t → t.2.1.length = n + 1 → ∃ f r, t.2.1 = f :: r ∧ r.length = n ∧ s.1 22 n = nI (tyN f.2.2.1) ∧ s.1 23 n = nI f.2.2.2.1 ∧ f.2.2.1 ≤ 2 ∧ f.2.2.2.1 ≤ t.1.length ∧ fsC s f.2.2.2.1 r ∧ (t.1.drop (t.1.length - f.2.2.2.1)).length = f.2.2.2.1 ∧ tPop t = tGive f.2.2.1 (t.1.drop (t.1.length - f.2.2.2.1), r, t.2.2) := by
    intro t hS ht
    obtain ⟨f, r, hF⟩ := tS_cons hS
    have hrl : r.length = n := by rw [hF] at ht; simpa using ht
    have a7 := hS.2.2.2.2.2.2
    rw [hF] at a7
    obtain ⟨q1, q2, q3, q4, q5, q6, q7, q8, q9⟩ := a7
    rw [hrl] at q2 q3
    exact ⟨f, r, rfl.trans hF, hrl, q2, q3, q6, q8, q9, by rw [List.length_drop]; omega, by unfold tPop; rw [hF]⟩
  refine rX3_leave ?_
  unfold PX3_leave_0
  rw [m22]
  have n16 : s1.1 5 6 = s.1 23 n := by rw [e1, zI1, if_pos ⟨rfl, rfl⟩]
  refine ⟨fun q => ?_, fun q => ⟨fun q2 => ?_, fun q2 => ⟨fun q3 => ?_, fun q3 => ?_⟩⟩⟩
  · refine fin s1 (tzR.rf k1.2) (fun t hS ht h1n hl => ?_)
    obtain ⟨f, r, hF, hrl, h22, h23, hf2, hfl, hfs, hdl, hp⟩ := top t hS ht
    have hf : f.2.2.1 = 2 := by rw [h22] at q; exact (tyN_64 (by omega)).1 q
    rw [hp, hf]
    show s1.1 5 6 = nI (t.1.drop (t.1.length - f.2.2.2.1)).length ∧ (t.1.drop (t.1.length - f.2.2.2.1)).length ≤ 16000 ∧ tsC s1 (t.1.drop (t.1.length - f.2.2.2.1)) ∧ fsC s1 (t.1.drop (t.1.length - f.2.2.2.1)).length r
    rw [hdl, n16, h23]
    exact ⟨rfl, by omega, by rw [e1]; exact tsC_i (fun z => absurd z (by decide)) (tsC_drop _ hS.2.2.2.2.2.1), by rw [e1]; exact fsC_i (fun z => absurd z (by omega)) hfs⟩
  · refine fin s1 (tzR.rf k1.2) (fun t hS ht h1n hl => ?_)
    obtain ⟨f, r, hF, hrl, h22, h23, hf2, hfl, hfs, hdl, hp⟩ := top t hS ht
    rw [n16, h23] at q2
    exact absurd q2 (nI_pos (by omega))
  · refine fin s1 (tzR.rf k1.2) (fun t hS ht h1n hl => ?_)
    obtain ⟨f, r, hF, hrl, h22, h23, hf2, hfl, hfs, hdl, hp⟩ := top t hS ht
    rw [n16, h23] at q3
    exact absurd ((nI_leI (by decide) (by omega)).1 q3) (by omega)
  · refine ⟨vp_lh (vl_1 q2) (vh_1 q3) (by decide), fun s2 e2 s3 e3 => ?_⟩
    have k3 : tzR s1 s3 := by rw [e3, e2]; exact ((tzR.rf k1.2).i _ (by omega)).i _ (by omega)
    refine fin s3 k3 (fun t hS ht h1n hl => ?_)
    obtain ⟨f, r, hF, hrl, h22, h23, hf2, hfl, hfs, hdl, hp⟩ := top t hS ht
    have hf : ¬ f.2.2.1 = 2 := fun z => by rw [h22] at q; exact q ((tyN_64 (by omega)).2 z)
    have n26 : s2.1 5 6 = nI f.2.2.2.1 := by rw [e2, zI1, if_neg (by omega), n16, h23]
    rw [n26, nI_1] at e3
    rw [n16, h23, h22, nI_clamp (by omega), ty_byte (by omega)] at e2
    rw [hp]
    unfold tGive
    rw [if_neg hf]
    show s3.1 5 6 = nI (f.2.2.1 :: t.1.drop (t.1.length - f.2.2.2.1)).length ∧ (f.2.2.1 :: t.1.drop (t.1.length - f.2.2.2.1)).length ≤ 16000 ∧ tsC s3 (f.2.2.1 :: t.1.drop (t.1.length - f.2.2.2.1)) ∧ fsC s3 (f.2.2.1 :: t.1.drop (t.1.length - f.2.2.2.1)).length r
    rw [List.length_cons, hdl]
    refine ⟨by rw [e3, zI1, if_pos ⟨rfl, rfl⟩], by omega, ⟨?_, by omega, ?_⟩, ?_⟩
    · rw [hdl, e3, zI1, if_neg (by omega), e2, zI1, if_pos ⟨rfl, rfl⟩]
    · rw [e3, e2, e1]
      exact tsC_i (fun z => absurd z (by decide)) (tsC_i (fun _ => by rw [hdl]; exact Nat.le_refl _) (tsC_i (fun z => absurd z (by decide)) (tsC_drop _ hS.2.2.2.2.2.1)))
    · rw [e3, e2, e1]
      exact fsC_le (Nat.le_succ _) (fsC_i (fun z => absurd z (by omega)) (fsC_i (fun z => absurd z (by omega)) (fsC_i (fun z => absurd z (by omega)) hfs)))
