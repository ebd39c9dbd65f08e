/-! a section: behind a fault, with no word on what the facts count -/
def sV0 (s : zS) : Prop := 0 ≤ (s.1 7 3).toInt ∧ (s.1 5 7 = 0 ∨ s.1 5 7 = 1) ∧ (-1 ≤ (s.1 5 5).toInt ∧ (s.1 5 5).toInt ≤ 60) ∧ ∀ i, fits .short (.int (s.1 32 i)) = true
theorem sV0_of {s : zS} (h : sV s) : sV0 s := ⟨h.2.2.1, h.2.2.2.1, h.2.2.2.2.2.2.1, h.2.2.2.2.2.2.2⟩
theorem sV0.i {s : zS} (h : sV0 s) {c j : Nat} (x : Int32) (hc : ¬ (c = 7 ∧ j = 3) ∧ ¬ c = 5 ∧ ¬ c = 32) : sV0 (zsI s c j x) := by
  obtain ⟨h1, h2, h3, h4⟩ := h
  refine ⟨?_, ?_, ?_, fun i => ?_⟩
  · rw [zI1, if_neg (by omega)]; exact h1
  · rw [zI1, if_neg (by omega)]; exact h2
  · rw [zI1, if_neg (by omega)]; exact h3
  · rw [zI1, if_neg (by omega)]; exact h4 i
def cEq (s : zS) (k p : Nat) : Prop := s.1 1 4 = nI k ∧ (1 ≤ k ∧ k ≤ 4) ∧ s.1 1 5 = nI p ∧ sV0 s
def cEx (σ : zS) (K : zS → Prop) : Nat → Nat → Prop := fun k p => ∀ s, cEq s k p → sQ σ s → K s
theorem cEr.x {s : zS} {k p : Nat} (h : cEr s k p) : cEq s k p := ⟨h.1, h.2.1, h.2.2.1, sV0_of h.v⟩
theorem cEx.ev {σ : zS} {K : zS → Prop} {k p : Nat} (h : cEx σ K k p) : cEv σ K k p := fun s e q => h s e.x q
theorem cEx.to {σ s : zS} {K : zS → Prop} {k p : Nat} (h : cEx σ K k p) (q : sQ σ s) : cEx s K k p := fun z e r => h z e (q.trans r)
theorem cEq.bad {s : zS} {k p : Nat} (h : cEq s k p) : ¬ s.1 1 4 = 0 := by
  rw [h.1]
  intro z
  have := (nI_eq (b := 0) (by have := h.2.1; omega) (by decide)).1 z
  have := h.2.1
  omega
theorem fe_fail {s : zS} {k p : Nat} {x y : Int32} {K : zS → Prop} {QX : zS → Prop} (h : cEq s k p) (hK : K s) : zCT zZC zmX4_fail [.ref 1, .int x, .int y] s (zQv K) QX := by
  refine rX4_fail ?_
  unfold PX4_fail_0
  exact ⟨fun z => absurd z h.bad, fun _ => hK⟩
theorem fe_leave {s : zS} {k p : Nat} {w : Int32} {K : zS → Prop} {QX : zS → Prop} (h : cEq s k p) (hK : ∀ s', cEq s' k p → sQ s s' → K s') : zCT zZC zmX4_leave [.ref 1, .int w] s (zQv K) QX := by
  refine rX4_leave ?_
  unfold PX4_leave_0
  have go : ∀ s1 : zS, s1 = zsI s 1 3 w → K s1 := fun s1 e1 => hK s1 ⟨by rw [e1, zI1, if_neg (by omega)]; exact h.1, h.2.1, by rw [e1, zI1, if_neg (by omega)]; exact h.2.2.1, by rw [e1]; exact h.2.2.2.i _ (by omega)⟩ (by rw [e1]; exact sQ.rf.i _ (by omega))
  exact ⟨fun _ => go, fun _ => fe_fail h go⟩
theorem fe_fit {s : zS} {k p : Nat} {w : Int32} {K : zS → Prop} {QX : zS → Prop} (h : cEq s k p) (hK : K s) : zCT zZC zmX6_fit [.ref 3, .int w] s (zQv K) QX := by
  refine rX6_fit ?_
  unfold PX6_fit_0
  have v : ∀ j, j < 13 → vp_in (nI j) 13 := fun j hj => vp_in_nI hj (by decide)
  have tl : ((w = (11 : Int32) → (((s.2 2 14) < (0 : Int64) → zQv K none s) ∧ (¬ (s.2 2 14) < (0 : Int64) → vp_in (11 : Int32) 13 ∧ ((((s.1 18 (11 : Int32).toNatClampNeg).toInt64) = (s.2 2 14) → zQv K none s) ∧ (¬ ((s.1 18 (11 : Int32).toNatClampNeg).toInt64) = (s.2 2 14) → zCT zZC zmX4_fail [.ref 1, .int (1 : Int32), .int (s.1 1 2)] s (zQv (fun s1 => zQv K none s1)) QX))))) ∧ (¬ w = (11 : Int32) → zQv K none s)) :=
    ⟨fun _ => ⟨fun _ => hK, fun _ => ⟨v 11 (by decide), fun _ => hK, fun _ => fe_fail h hK⟩⟩, fun _ => hK⟩
  exact ⟨fun _ => ⟨v 10 (by decide), v 3 (by decide), fun _ => tl, fun _ => fe_fail h tl⟩, fun _ => tl⟩
/-- the item reader of section k -/
def rsI (QX : zS → Prop) (k : Nat) (w : Int32) (s : zS) (K : zS → Prop) : Prop :=
  if k = 1 then zCT zZC zmX6_readSignature [.ref 3] s (zQv K) QX
  else if k = 2 then zCT zZC zmX6_readImport [.ref 3] s (zQv K) QX
  else if k = 3 then zCT zZC zmX6_readSignatureOfFunction [.ref 3, .int (1 : Int32)] s (zQv K) QX
  else if k = 4 then zCT zZC zmX6_readTable [.ref 3] s (zQv K) QX
  else if k = 5 then zCT zZC zmX6_readMemory [.ref 3] s (zQv K) QX
  else if k = 6 then zCT zZC zmX6_readGlobal [.ref 3] s (zQv K) QX
  else if k = 7 then zCT zZC zmX6_readExport [.ref 3] s (zQv K) QX
  else if k = 8 then zCT zZC zmX6_readStart [.ref 3] s (zQv K) QX
  else if k = 9 then zCT zZC zmX6_readElement [.ref 3] s (zQv K) QX
  else if k = 10 then zCT zZC zmX1_readBody [.ref 4, .int w] s (zQv K) QX
  else if k = 11 then zCT zZC zmX6_readData [.ref 3] s (zQv K) QX
  else if k = 12 then zCT zZC zmX4_number [.ref 1] s (zQl (fun r u => ∀ v : zS, v = zsL u 2 14 r → K v)) QX
  else zCT zZC zmX4_name [.ref 1] s (zQi (fun r u => zCT zZC zmX4_skipRest [.ref 1] u (zQv K) QX)) QX
theorem rs_bad {s : zS} {k : Nat} {w : Int32} {K : zS → Prop} {QX : zS → Prop} (hv : sV s) (h : ∀ u, sR s u → K u) : rsI QX k w s K := by
  unfold rsI
  by_cases q : k = 1
  · rw [if_pos q]; exact sf_X6_readSignature hv h
  rw [if_neg q]
  by_cases q : k = 2
  · rw [if_pos q]; exact sf_X6_readImport hv h
  rw [if_neg q]
  by_cases q : k = 3
  · rw [if_pos q]; exact sf_X6_readSignatureOfFunction hv h
  rw [if_neg q]
  by_cases q : k = 4
  · rw [if_pos q]; exact sf_X6_readTable hv h
  rw [if_neg q]
  by_cases q : k = 5
  · rw [if_pos q]; exact sf_X6_readMemory hv h
  rw [if_neg q]
  by_cases q : k = 6
  · rw [if_pos q]; exact sf_X6_readGlobal hv h
  rw [if_neg q]
  by_cases q : k = 7
  · rw [if_pos q]; exact sf_X6_readExport hv h
  rw [if_neg q]
  by_cases q : k = 8
  · rw [if_pos q]; exact sf_X6_readStart hv h
  rw [if_neg q]
  by_cases q : k = 9
  · rw [if_pos q]; exact sf_X6_readElement hv h
  rw [if_neg q]
  by_cases q : k = 10
  · rw [if_pos q]; exact sf_X1_readBody hv h
  rw [if_neg q]
  by_cases q : k = 11
  · rw [if_pos q]; exact sf_X6_readData hv h
  rw [if_neg q]
  by_cases q : k = 12
  · rw [if_pos q]; exact sf_X4_number hv (fun r s _ k s15 e15 => h s15 (by rw [e15]; exact k.l _ (by omega)))
  rw [if_neg q]
  exact sf_X4_name hv (fun _ s k => sf_X4_skipRest k.2 (fun s2 k2 => h s2 (k.trans k2)))
theorem rs_disp {K35 : Int32 → Int32 → Int32 → Int32 → zS → Prop} {Q : Option Value → zS → Prop} {QX : zS → Prop} {k : Nat} {x1 x2 x3 x4 : Int32} {s1 : zS} (hk : k < 13) (e1 : x1 = nI k) (h : rsI QX k x4 s1 (fun u => PX6_readSection_239 K35 Q QX x1 x2 x3 x4 u)) :
        ((x1 = 1 →
          zCT zZC zmX6_readSignature [.ref 3] s1 (zQv (fun s2 =>
            PX6_readSection_239 K35 Q QX x1 x2 x3 x4 s2)) QX) ∧ (¬ x1 = 1 →
        ((x1 = 2 →
          zCT zZC zmX6_readImport [.ref 3] s1 (zQv (fun s3 =>
            PX6_readSection_239 K35 Q QX x1 x2 x3 x4 s3)) QX) ∧ (¬ x1 = 2 →
        ((x1 = 3 →
          zCT zZC zmX6_readSignatureOfFunction [.ref 3, .int (1 : Int32)] s1 (zQv (fun s4 =>
            PX6_readSection_239 K35 Q QX x1 x2 x3 x4 s4)) QX) ∧ (¬ x1 = 3 →
        ((x1 = 4 →
          zCT zZC zmX6_readTable [.ref 3] s1 (zQv (fun s5 =>
            PX6_readSection_239 K35 Q QX x1 x2 x3 x4 s5)) QX) ∧ (¬ x1 = 4 →
        ((x1 = 5 →
          zCT zZC zmX6_readMemory [.ref 3] s1 (zQv (fun s6 =>
            PX6_readSection_239 K35 Q QX x1 x2 x3 x4 s6)) QX) ∧ (¬ x1 = 5 →
        ((x1 = 6 →
          zCT zZC zmX6_readGlobal [.ref 3] s1 (zQv (fun s7 =>
            PX6_readSection_239 K35 Q QX x1 x2 x3 x4 s7)) QX) ∧ (¬ x1 = 6 →
        ((x1 = 7 →
          zCT zZC zmX6_readExport [.ref 3] s1 (zQv (fun s8 =>
            PX6_readSection_239 K35 Q QX x1 x2 x3 x4 s8)) QX) ∧ (¬ x1 = 7 →
        ((x1 = 8 →
          zCT zZC zmX6_readStart [.ref 3] s1 (zQv (fun s9 =>
            PX6_readSection_239 K35 Q QX x1 x2 x3 x4 s9)) QX) ∧ (¬ x1 = 8 →
        ((x1 = 9 →
          zCT zZC zmX6_readElement [.ref 3] s1 (zQv (fun s10 =>
            PX6_readSection_239 K35 Q QX x1 x2 x3 x4 s10)) QX) ∧ (¬ x1 = 9 →
        ((x1 = 10 →
          zCT zZC zmX1_readBody [.ref 4, .int x4] s1 (zQv (fun s11 =>
            PX6_readSection_239 K35 Q QX x1 x2 x3 x4 s11)) QX) ∧ (¬ x1 = 10 →
        ((x1 = 11 →
          zCT zZC zmX6_readData [.ref 3] s1 (zQv (fun s12 =>
            PX6_readSection_239 K35 Q QX x1 x2 x3 x4 s12)) QX) ∧ (¬ x1 = 11 →
        ((x1 = 12 →
          zCT zZC zmX4_number [.ref 1] s1 (zQl (fun r14 s13 =>
            ∀ s15 : zS, s15 = zsL s13 2 14 r14 →
            PX6_readSection_239 K35 Q QX x1 x2 x3 x4 s15)) QX) ∧ (¬ x1 = 12 →
          zCT zZC zmX4_name [.ref 1] s1 (zQi (fun r17 s16 =>
            zCT zZC zmX4_skipRest [.ref 1] s16 (zQv (fun s18 =>
              PX6_readSection_239 K35 Q QX x1 x2 x3 x4 s18)) QX)) QX)))))))))))))))))))))))) := by
  have c : ∀ j, j < 13 → (nI k = nI j ↔ k = j) := fun j hj => nI_eq (by omega) (by omega)
  unfold rsI at h
  refine ⟨fun q => by rw [if_pos ((c 1 (by decide)).1 (e1.symm.trans q))] at h; exact h, fun q => ?_⟩
  rw [if_neg (fun z => q (e1.trans ((c 1 (by decide)).2 z)))] at h
  refine ⟨fun q => by rw [if_pos ((c 2 (by decide)).1 (e1.symm.trans q))] at h; exact h, fun q => ?_⟩
  rw [if_neg (fun z => q (e1.trans ((c 2 (by decide)).2 z)))] at h
  refine ⟨fun q => by rw [if_pos ((c 3 (by decide)).1 (e1.symm.trans q))] at h; exact h, fun q => ?_⟩
  rw [if_neg (fun z => q (e1.trans ((c 3 (by decide)).2 z)))] at h
  refine ⟨fun q => by rw [if_pos ((c 4 (by decide)).1 (e1.symm.trans q))] at h; exact h, fun q => ?_⟩
  rw [if_neg (fun z => q (e1.trans ((c 4 (by decide)).2 z)))] at h
  refine ⟨fun q => by rw [if_pos ((c 5 (by decide)).1 (e1.symm.trans q))] at h; exact h, fun q => ?_⟩
  rw [if_neg (fun z => q (e1.trans ((c 5 (by decide)).2 z)))] at h
  refine ⟨fun q => by rw [if_pos ((c 6 (by decide)).1 (e1.symm.trans q))] at h; exact h, fun q => ?_⟩
  rw [if_neg (fun z => q (e1.trans ((c 6 (by decide)).2 z)))] at h
  refine ⟨fun q => by rw [if_pos ((c 7 (by decide)).1 (e1.symm.trans q))] at h; exact h, fun q => ?_⟩
  rw [if_neg (fun z => q (e1.trans ((c 7 (by decide)).2 z)))] at h
  refine ⟨fun q => by rw [if_pos ((c 8 (by decide)).1 (e1.symm.trans q))] at h; exact h, fun q => ?_⟩
  rw [if_neg (fun z => q (e1.trans ((c 8 (by decide)).2 z)))] at h
  refine ⟨fun q => by rw [if_pos ((c 9 (by decide)).1 (e1.symm.trans q))] at h; exact h, fun q => ?_⟩
  rw [if_neg (fun z => q (e1.trans ((c 9 (by decide)).2 z)))] at h
  refine ⟨fun q => by rw [if_pos ((c 10 (by decide)).1 (e1.symm.trans q))] at h; exact h, fun q => ?_⟩
  rw [if_neg (fun z => q (e1.trans ((c 10 (by decide)).2 z)))] at h
  refine ⟨fun q => by rw [if_pos ((c 11 (by decide)).1 (e1.symm.trans q))] at h; exact h, fun q => ?_⟩
  rw [if_neg (fun z => q (e1.trans ((c 11 (by decide)).2 z)))] at h
  refine ⟨fun q => by rw [if_pos ((c 12 (by decide)).1 (e1.symm.trans q))] at h; exact h, fun q => ?_⟩
  rw [if_neg (fun z => q (e1.trans ((c 12 (by decide)).2 z)))] at h
  exact h
