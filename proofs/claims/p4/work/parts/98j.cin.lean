/-! THE CLASS: its reader. The first fault stays: the state is that of a parse, at a place or with its fault -/
def fK (σ s : zS) : Prop := ∀ c i, ¬ (c = 1 ∧ 2 ≤ i ∧ i ≤ 5) → s.1 c i = σ.1 c i ∧ s.2 c i = σ.2 c i
theorem fK.rf {σ : zS} : fK σ σ := fun _ _ _ => ⟨rfl, rfl⟩
theorem fK.trans {σ s u : zS} (h : fK σ s) (h2 : fK s u) : fK σ u := fun c i a => ⟨(h2 c i a).1.trans (h c i a).1, (h2 c i a).2.trans (h c i a).2⟩
theorem fK.i {σ s : zS} (h : fK σ s) {j : Nat} (x : Int32) (hj : 2 ≤ j ∧ j ≤ 5) : fK σ (zsI s 1 j x) := fun c i a => ⟨by rw [zI1, if_neg (by omega)]; exact (h c i a).1, (h c i a).2⟩
/-- the reader within e: at a place, or stuck with a fault -/
def cS (s : zS) (b : Nat → Nat) (e : Nat) (x : mE Nat) : Prop := (∀ j, j < 16000 → b j < 256 ∧ s.1 10 j = sb_b (b j)) ∧ e ≤ 16000 ∧ match x with
  | .ok a => s.1 1 4 = 0 ∧ s.1 1 2 = nI a ∧ s.1 1 3 = nI e ∧ a ≤ e
  | .error q => s.1 1 4 = nI q.1 ∧ 1 ≤ q.1 ∧ q.1 ≤ 4 ∧ s.1 1 5 = nI q.2
def vI (x : mE Nat) : Int32 := match x with
  | .ok v => nI v
  | .error _ => 0
def vL (x : mE Nat) : Int64 := match x with
  | .ok v => lN v
  | .error _ => 0
/-- the place behind a parse, its value -/
def pl {α : Type} (x : mE (α × Nat)) : mE Nat := x.bind fun r => .ok r.2
def va (x : mE (Nat × Nat)) : mE Nat := x.bind fun r => .ok r.1
theorem cS.bad {s : zS} {b : Nat → Nat} {e : Nat} {q : Nat × Nat} (h : cS s b e (.error q)) : ¬ s.1 1 4 = 0 := by
  obtain ⟨-, -, h1, h2, h3, -⟩ := h
  rw [h1]
  intro z
  have := (nI_eq (b := 0) (by omega) (by decide)).1 z
  omega
/-- a fault at a place where there was none -/
theorem cS.fail {s : zS} {b : Nat → Nat} {e k p : Nat} {x : mE Nat} (h : cS s b e x) (hk : 1 ≤ k ∧ k ≤ 4) : cS (zsI (zsI s 1 4 (nI k)) 1 5 (nI p)) b e (.error (k, p)) :=
  ⟨fun j hj => ⟨(h.1 j hj).1, by rw [zI1, if_neg (by omega), zI1, if_neg (by omega)]; exact (h.1 j hj).2⟩, h.2.1, by rw [zI1, if_neg (by omega), zI1, if_pos ⟨rfl, rfl⟩], hk.1, hk.2, by rw [zI1, if_pos ⟨rfl, rfl⟩]⟩
theorem cS.at {s : zS} {b : Nat → Nat} {e a a' : Nat} (h : cS s b e (.ok a)) (ha : a' ≤ e) : cS (zsI s 1 2 (nI a')) b e (.ok a') :=
  ⟨fun j hj => ⟨(h.1 j hj).1, by rw [zI1, if_neg (by omega)]; exact (h.1 j hj).2⟩, h.2.1, by rw [zI1, if_neg (by omega)]; exact h.2.2.1, by rw [zI1, if_pos ⟨rfl, rfl⟩], by rw [zI1, if_neg (by omega)]; exact h.2.2.2.2.1, ha⟩
theorem sc_fail {s : zS} {b : Nat → Nat} {e k p : Nat} {x : mE Nat} {w : Int32} {K : zS → Prop} {QX : zS → Prop} (hs : cS s b e x) (hk : 1 ≤ k ∧ k ≤ 4) (hw : ∀ a, x = .ok a → w = nI p) (h : ∀ s', fK s s' → cS s' b e (x.bind fun _ => .error (k, p)) → K s') : zCT zZC zmX4_fail [.ref 1, .int (nI k), .int w] s (zQv K) QX := by
  refine rX4_fail ?_
  unfold PX4_fail_0
  cases x with
  | ok a =>
    obtain ⟨-, -, h1, -⟩ := id hs
    rw [h1]
    refine ⟨fun _ s1 e1 s2 e2 => ?_, fun q => absurd rfl q⟩
    rw [hw a rfl] at e2
    rw [e1] at e2
    rw [e2]
    exact h _ ((fK.rf.i _ (by omega)).i _ (by omega)) (hs.fail hk)
  | error q => exact ⟨fun z => absurd z hs.bad, fun _ => h s fK.rf hs⟩
theorem sc_octet {s : zS} {b : Nat → Nat} {e : Nat} {x : mE Nat} {K : Int32 → zS → Prop} {QX : zS → Prop} (hs : cS s b e x) (h : ∀ s', fK s s' → cS s' b e (pl (x.bind (mOct b e))) → K (vI (va (x.bind (mOct b e)))) s') : zCT zZC zmX4_octet [.ref 1] s (zQi K) QX := by
  refine rX4_octet ?_
  unfold PX4_octet_0
  cases x with
  | error q => exact ⟨fun z => absurd z hs.bad, fun _ => h s fK.rf hs⟩
  | ok a =>
    obtain ⟨hb, he, h4, h2, h3, hae⟩ := id hs
    have c0 : nI a < (0 : Int32) ↔ a < 0 := nI_ltI (b := 0) (by omega) (by decide)
    have c1 : nI e ≤ nI a ↔ e ≤ a := nI_leI (by omega) (by omega)
    have c2 : nI a < nI 16000 ↔ a < 16000 := nI_ltI (by omega) (by decide)
    have h : ∀ s', fK s s' → cS s' b e (pl (mOct b e a)) → K (vI (va (mOct b e a))) s' := h
    rw [h4, h2, h3, c0, c1, c2]
    refine ⟨fun _ => ⟨fun z => absurd z (Nat.not_lt_zero _), fun _ => ⟨fun q s3 e3 s4 e4 => ?_, fun q => ⟨fun _ => ⟨vp_in_nI (by omega) (by decide), fun s5 e5 => ?_⟩, fun z => absurd (by omega) z⟩⟩⟩, fun z => absurd rfl z⟩
    · have hm : mOct b e a = .error (1, e) := by unfold mOct; rw [if_neg (by omega)]
      rw [hm] at h
      have n3 : s3.1 1 3 = nI e := by rw [e3, zI1, if_neg (by omega)]; exact h3
      rw [n3, e3] at e4
      rw [e4]
      exact h _ ((fK.rf.i _ (by omega)).i _ (by omega)) (hs.fail (k := 1) (by decide))
    · have hm : mOct b e a = .ok (b a, a + 1) := by unfold mOct; rw [if_pos (by omega)]
      rw [hm] at h
      have hv := hb a (by omega)
      rw [nI_clamp (by omega), hv.2, mByte hv.1]
      rw [nI_1] at e5
      rw [e5]
      exact h _ (fK.rf.i _ (by omega)) (hs.at (by omega))
