/-! the class's calls against the answers -/
theorem cZ_end {σ s s3 : zS} {S : qS} {o : Option mA} {pl : Int32} (hZ : cZ σ S) (hq : sQ σ s) (hv : sV0 s3) (h11 : s3.1 1 1 = 0) (h05 : s3.1 0 5 = s.1 0 5) (h10 : ∀ i, s3.1 10 i = s.1 10 i) (hk : kR s3 o) : cZ s3 ([], S.2.1, pl, o) := by
  obtain ⟨ht, hb, h5, h6, hv0, hB, hk0⟩ := hZ
  refine ⟨⟨h11, Nat.zero_le _, fun j hj => absurd hj (Nat.not_lt_zero _)⟩, fun x hx => absurd hx List.not_mem_nil, ?_, h6, hv, cBy_q (fun i => by rw [h10, hq 10 i (by omega)]) hB, hk⟩
  show s3.1 0 5 = nI S.2.1
  rw [h05, hq 0 5 (by omega)]; exact h5
theorem sc_check {σ : zS} {S : qS} {K : Int32 → zS → Prop} {QX : zS → Prop} (hZ : cZ σ S) (h : ∀ s, cZ s (qCheck S).2 → K (qCheck S).1 s) : zCT zZC zmX8_check [.ref 0] σ (zQi K) QX := by
  obtain ⟨ht, hb, h5, h6, hv, ⟨V, hV⟩, hk⟩ := id hZ
  obtain ⟨E, eE⟩ : ∃ E, E = S.1.length := ⟨_, rfl⟩
  obtain ⟨b, eb⟩ : ∃ b : Nat → Nat, b = fun j => if j < E then S.1.getD j 0 else V j := ⟨_, rfl⟩
  have eqb : ∀ j, j < E → b j = qB S.1 j := fun j hj => by rw [eb]; show (if j < E then S.1.getD j 0 else V j) = _; rw [if_pos hj]; rfl
  have hcB : cB σ b := fun j hj => by
    by_cases q : j < E
    · rw [eqb j q]
      exact ⟨hb _ (getD_mem (by omega)), ht.2.2 j (by omega)⟩
    · have e : b j = V j := by rw [eb]; show (if j < E then S.1.getD j 0 else V j) = _; rw [if_neg q]
      rw [e]; exact hV j hj
  have hE : E ≤ 16000 := by rw [eE]; exact ht.2.1
  have hbb : ∀ j, j < E → b j < 256 := fun j hj => (hcB j (by omega)).1
  have hread : mRead b E = mRead (qB S.1) S.1.length := by rw [mRead_l eqb, eE]
  refine ck_all (b := b) (E := E) hv hcB (by rw [eE]; exact ht.1) hE (fun kk p s s3 hr hq her hf => ?_) (fun A n s hr hq hs hM n10 n11 => ?_)
  · have e1 : qRead S.1 = .error (kk, p) := by unfold qRead; rw [← hread, hr]; rfl
    have e2 : qCheck S = (nI kk, ([], S.2.1, nI p, S.2.2.2)) := by unfold qCheck; rw [e1]
    have := h s3 (by
      rw [e2]
      exact cZ_end hZ hq (sV0_q (fun c i hc => hf.2 c i (by omega) (by omega)) her.2.2.2) hf.1 (hf.2 0 5 (by omega) (by omega)) (fun i => hf.2 10 i (by omega) (by omega)) (kR_q (fun c i hc => by rw [hf.2 c i (by omega) (by omega), hq c i (by omega)]) hk))
    rw [e2] at this
    exact this
  · obtain ⟨f1, f2, f3⟩ := mRead_facts hbb hr
    have hC : ∀ m, aC A = some m → (aZ A).length = m := fun m hm => by
      have := n11
      rw [noFit11, hm] at this
      simpa using this
    have hw := ww_all f1 f3 hC hbb
    have hwr : wr s ↔ wW b E A := hM.2.2.2.2.2.1
    have hml : mMeans b E A = mMeans (qB S.1) S.1.length A := by rw [mMeans_l eqb f1 f2, eE]
    have e0 : qRead S.1 = (mMeans (qB S.1) S.1.length A).bind fun _ => .ok A := by unfold qRead; rw [← hread, hr]; rfl
    have hv0 := sV0_of hs.v
    refine ⟨fun z => mMeans_G (hw.1 (fun w => z (hwr.2 w))), fun z s3 hf => ?_, fun z s3 hf hkr => ?_⟩
    · cases hm : mMeans b E A with
      | ok u => exact absurd (hwr.1 z) (hw.2 hm)
      | error q =>
        have e1 : qRead S.1 = .error q := by rw [e0, ← hml, hm]; rfl
        have e2 : qCheck S = (nI q.1, ([], S.2.1, nI q.2, S.2.2.2)) := by unfold qCheck; rw [e1]
        have := h s3 (by
          rw [e2]
          exact cZ_end hZ hq (sV0_q (fun c i hc => hf.2 c i (by omega) (by omega)) hv0) hf.1 (hf.2 0 5 (by omega) (by omega)) (fun i => hf.2 10 i (by omega) (by omega)) (kR_q (fun c i hc => by rw [hf.2 c i (by omega) (by omega), hq c i (by omega)]) hk))
        rw [e2, mMeans_2 hm] at this
        exact this
    · have hm := hw.1 (fun w => z (hwr.2 w))
      have e1 : qRead S.1 = .ok A := by rw [e0, ← hml, hm]; rfl
      have e2 : qCheck S = (0, ([], S.2.1, -1, some A)) := by unfold qCheck; rw [e1]
      have := h s3 (by
        rw [e2]
        exact cZ_end hZ hq (sV0_q (fun c i hc => hf.2 c i (by omega) (by omega) (by omega) (by omega) (by omega) (by omega)) hv0) hf.1 (hf.2 0 5 (by omega) (by omega) (by omega) (by omega) (by omega) (by omega)) (fun i => hf.2 10 i (by omega) (by omega) (by omega) (by omega) (by omega) (by omega)) hkr)
      rw [e2] at this
      exact this
theorem cZ_F {σ s : zS} {S S' : qS} (hZ : cZ σ S) (k : cFB σ s) (h1 : cT s S'.1) (h2 : ∀ x ∈ S'.1, x < 256) (h3 : s.1 0 5 = nI S'.2.1) (h4 : S'.2.1 ≤ 65536) (h5 : S'.2.2.2 = S.2.2.2) : cZ s S' := by
  obtain ⟨ht, hb, a5, a6, hv, hB, hk⟩ := hZ
  refine ⟨h1, h2, h3, h4, sV0_q (fun c i hc => (k.1 c i (by omega) (by omega) (by omega)).1) hv, k.2 hB, ?_⟩
  rw [h5]
  exact kR_q (fun c i hc => (k.1 c i (by omega) (by omega) (by omega)).1) hk
theorem sc_feedZ {σ : zS} {S : qS} {a b c d e : Int32} {K : Int32 → zS → Prop} {QX : zS → Prop} (hZ : cZ σ S) (h : ∀ s, cZ s (qFeed S a b c d e).2 → K (qFeed S a b c d e).1 s) : zCT zZC zmX8_feed [.ref 0, .int a, .int b, .int c, .int d, .int e] σ (zQi K) QX :=
  sc_feedB hZ.1 hZ.2.1 hZ.2.2.1 hZ.2.2.2.1 (fun s h1 h2 h3 h4 h5 k => h s (cZ_F hZ k h1 h2 h3 h4 (by rw [h5])))
theorem sc_endZ {σ : zS} {S : qS} {n : Int32} {K : Int32 → zS → Prop} {QX : zS → Prop} (hZ : cZ σ S) (h : ∀ s, cZ s (qEnd S n).2 → K (qEnd S n).1 s) : zCT zZC zmX8_end [.ref 0, .int n] σ (zQi K) QX :=
  sc_endB hZ.1 hZ.2.1 (fun s h1 h2 h3 k h5 => h s (cZ_F hZ k h1 h2 (by rw [h5, h3]; exact hZ.2.2.1) (by rw [h3]; exact hZ.2.2.2.1) (by rw [h3])))
/-- an int that is neither below 0 nor at n or above -/
theorem i_at {w : Int32} {n : Nat} (hn : n < 2 ^ 31) (h0 : ¬ w < 0) (h1 : ¬ nI n ≤ w) : w = nI w.toNatClampNeg ∧ w.toNatClampNeg < n := by
  rw [Int32.lt_iff_toInt_lt, show (0 : Int32).toInt = 0 from rfl] at h0
  rw [Int32.le_iff_toInt_le, nI_toInt hn] at h1
  have h2 : (w.toNatClampNeg : Int) = w.toInt := by
    show ((w.toInt).toNat : Int) = w.toInt
    omega
  refine ⟨?_, by omega⟩
  apply Int32.toInt_inj.1
  rw [nI_toInt (by omega)]
  exact h2.symm
theorem sc_count {σ : zS} {S : qS} {w : Int32} {K : Int32 → zS → Prop} {QX : zS → Prop} (hZ : cZ σ S) (h : K (qCount S w) σ) : zCT zZC zmX8_count [.ref 0, .int w] σ (zQi K) QX := by
  have hk := hZ.2.2.2.2.2.2
  refine rX8_count ?_
  unfold PX8_count_0
  refine rX0_countOf ?_
  unfold PX0_countOf_0
  have v : ∀ j, j < 13 → vp_in (nI j) 13 := fun j hj => vp_in_nI hj (by decide)
  cases ho : S.2.2.2 with
  | none =>
    rw [ho] at hk
    have e : qCount S w = -1 := by unfold qCount; rw [ho]
    rw [e] at h
    exact ⟨fun _ => h, fun z => absurd hk.2 z⟩
  | some A =>
    rw [ho] at hk
    obtain ⟨k1, k2, k3, k4, k5, -⟩ := hk
    have e : qCount S w = (if w = 1 then nI (aS A).length else if w = 2 then nI (aI A).length else if w = 3 then nI (aF A).length else if w = 4 then nI (aT A).length else if w = 5 then nI (aM A).length else if w = 6 then nI (aG A).length else if w = 7 then nI (aX A).length else if w = 9 then nI (aE A).length else if w = 11 then nI (aZ A).length else -1) := by unfold qCount; rw [ho]
    have no : (∀ j, j < 13 → ¬ w = nI j) → qCount S w = -1 := fun hn => by
      rw [e, if_neg (show ¬ w = (1 : Int32) from hn 1 (by decide)), if_neg (show ¬ w = (2 : Int32) from hn 2 (by decide)), if_neg (show ¬ w = (3 : Int32) from hn 3 (by decide)), if_neg (show ¬ w = (4 : Int32) from hn 4 (by decide)), if_neg (show ¬ w = (5 : Int32) from hn 5 (by decide)), if_neg (show ¬ w = (6 : Int32) from hn 6 (by decide)), if_neg (show ¬ w = (7 : Int32) from hn 7 (by decide)), if_neg (show ¬ w = (9 : Int32) from hn 9 (by decide)), if_neg (show ¬ w = (11 : Int32) from hn 11 (by decide))]
    refine ⟨fun z => ?_, fun _ => ⟨fun z => ?_, fun q0 => ⟨fun z => ?_, fun q1 => ?_⟩⟩⟩
    · rw [k1] at z; exact absurd z (by decide)
    · have := no (fun j hj hw => by rw [hw] at z; exact nI_pos (by omega) z)
      rw [this] at h; exact h
    · have := no (fun j hj hw => by rw [hw] at z; have := (nI_leI (a := 13) (by decide) (by omega)).1 z; omega)
      rw [this] at h; exact h
    · obtain ⟨w1, w2⟩ := i_at (by decide) q0 q1
      refine ⟨by rw [w1]; exact v _ w2, ?_⟩
      show K (σ.1 33 w.toNatClampNeg) σ
      rw [k5 _ w2]
      have c : ∀ j, j < 13 → (w = nI j ↔ w.toNatClampNeg = j) := fun j hj => by
        constructor
        · intro z; rw [z]; exact nI_clamp (by omega)
        · intro z; rw [w1, z]
      have e3 : qCount S w = kcnt A w.toNatClampNeg := by
        rw [e]
        unfold kcnt
        simp only [show (w = (1 : Int32)) = (w.toNatClampNeg = 1) from propext (c 1 (by decide)), show (w = (2 : Int32)) = (w.toNatClampNeg = 2) from propext (c 2 (by decide)), show (w = (3 : Int32)) = (w.toNatClampNeg = 3) from propext (c 3 (by decide)), show (w = (4 : Int32)) = (w.toNatClampNeg = 4) from propext (c 4 (by decide)), show (w = (5 : Int32)) = (w.toNatClampNeg = 5) from propext (c 5 (by decide)), show (w = (6 : Int32)) = (w.toNatClampNeg = 6) from propext (c 6 (by decide)), show (w = (7 : Int32)) = (w.toNatClampNeg = 7) from propext (c 7 (by decide)), show (w = (9 : Int32)) = (w.toNatClampNeg = 9) from propext (c 9 (by decide)), show (w = (11 : Int32)) = (w.toNatClampNeg = 11) from propext (c 11 (by decide))]
      rw [e3] at h
      exact h
