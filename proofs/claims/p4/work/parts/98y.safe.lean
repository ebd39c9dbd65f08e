/-! THE CLASS, any state: each of its methods returns; a fault stays; the tray, the bytes fed, the kept answers and the sections' counts stay -/
def sK (σ s : zS) : Prop := (∀ c i, (c = 0 ∨ c = 9 ∨ c = 10 ∨ c = 18 ∨ (c = 1 ∧ i = 1) ∨ (33 ≤ c ∧ c ≤ 37)) → s.1 c i = σ.1 c i ∧ s.2 c i = σ.2 c i) ∧ (¬ σ.1 1 4 = 0 → s.1 1 4 = σ.1 1 4 ∧ s.1 1 5 = σ.1 1 5)
def sV (s : zS) : Prop := 0 ≤ (s.1 2 8).toInt ∧ 0 ≤ (s.1 2 12).toInt ∧ 0 ≤ (s.1 7 3).toInt ∧ (s.1 5 7 = 0 ∨ s.1 5 7 = 1) ∧ 0 ≤ (s.1 18 1).toInt ∧ 0 ≤ (s.1 18 7).toInt ∧ (-1 ≤ (s.1 5 5).toInt ∧ (s.1 5 5).toInt ≤ 60) ∧ ∀ i, fits .short (.int (s.1 32 i)) = true
def sR (σ s : zS) : Prop := sK σ s ∧ sV s
theorem sK.rf {σ : zS} : sK σ σ := ⟨fun _ _ _ => ⟨rfl, rfl⟩, fun _ => ⟨rfl, rfl⟩⟩
theorem sK.trans {σ s u : zS} (h : sK σ s) (h2 : sK s u) : sK σ u := ⟨fun c i a => ⟨(h2.1 c i a).1.trans (h.1 c i a).1, (h2.1 c i a).2.trans (h.1 c i a).2⟩, fun z => by
  obtain ⟨a, b⟩ := h.2 z
  obtain ⟨a2, b2⟩ := h2.2 (by rw [a]; exact z)
  exact ⟨a2.trans a, b2.trans b⟩⟩
theorem sR.trans {σ s u : zS} (h : sR σ s) (h2 : sR s u) : sR σ u := ⟨h.1.trans h2.1, h2.2⟩
theorem sK.i {σ s : zS} (h : sK σ s) {c j : Nat} (x : Int32) (hc : ¬ (c = 0 ∨ c = 9 ∨ c = 10 ∨ c = 18 ∨ (c = 1 ∧ (j = 1 ∨ j = 4 ∨ j = 5)) ∨ (33 ≤ c ∧ c ≤ 37))) : sK σ (zsI s c j x) :=
  ⟨fun a i ha => ⟨by rw [zI1, if_neg (by omega)]; exact (h.1 a i ha).1, (h.1 a i ha).2⟩, fun z => ⟨by rw [zI1, if_neg (by omega)]; exact (h.2 z).1, by rw [zI1, if_neg (by omega)]; exact (h.2 z).2⟩⟩
theorem sR.i {σ s : zS} (h : sR σ s) {c j : Nat} (x : Int32) (hc : ¬ (c = 0 ∨ c = 9 ∨ c = 10 ∨ c = 18 ∨ (c = 1 ∧ (j = 1 ∨ j = 4 ∨ j = 5)) ∨ (33 ≤ c ∧ c ≤ 37) ∨ (c = 2 ∧ (j = 8 ∨ j = 12)) ∨ (c = 7 ∧ j = 3) ∨ (c = 5 ∧ (j = 5 ∨ j = 7)) ∨ c = 32)) : sR σ (zsI s c j x) := by
  obtain ⟨v1, v2, v3, v4, v5, v6, v8, v7⟩ := h.2
  refine ⟨h.1.i x (by omega), ?_, ?_, ?_, ?_, ?_, ?_, ?_, fun i => ?_⟩
  · rw [zI1, if_neg (by omega)]; exact v1
  · rw [zI1, if_neg (by omega)]; exact v2
  · rw [zI1, if_neg (by omega)]; exact v3
  · rw [zI1, if_neg (by omega)]; exact v4
  · rw [zI1, if_neg (by omega)]; exact v5
  · rw [zI1, if_neg (by omega)]; exact v6
  · rw [zI1, if_neg (by omega)]; exact v8
  · rw [zI1, if_neg (by omega)]; exact v7 i
theorem sR.l {σ s : zS} (h : sR σ s) {c j : Nat} (x : Int64) (hc : ¬ (c = 0 ∨ c = 9 ∨ c = 10 ∨ c = 18 ∨ c = 1 ∨ (33 ≤ c ∧ c ≤ 37))) : sR σ (zsL s c j x) := by
  refine ⟨⟨fun a i ha => ⟨(h.1.1 a i ha).1, ?_⟩, h.1.2⟩, h.2⟩
  show (if a = c ∧ i = j then x else s.2 a i) = _
  rw [if_neg (by omega)]
  exact (h.1.1 a i ha).2
theorem sR.v {σ s : zS} (h : sR σ s) {c j : Nat} (x : Int32) (hc : (c = 2 ∧ (j = 8 ∨ j = 12)) ∨ (c = 7 ∧ j = 3)) (hx : 0 ≤ x.toInt) : sR σ (zsI s c j x) := by
  obtain ⟨v1, v2, v3, v4, v5, v6, v8, v7⟩ := h.2
  refine ⟨h.1.i x (by omega), ?_, ?_, ?_, ?_, ?_, ?_, ?_, fun i => ?_⟩
  · rw [zI1]; split <;> assumption
  · rw [zI1]; split <;> assumption
  · rw [zI1]; split <;> assumption
  · rw [zI1, if_neg (by omega)]; exact v4
  · rw [zI1, if_neg (by omega)]; exact v5
  · rw [zI1, if_neg (by omega)]; exact v6
  · rw [zI1, if_neg (by omega)]; exact v8
  · rw [zI1, if_neg (by omega)]; exact v7 i
theorem sR.r {σ s : zS} (h : sR σ s) (x : Int32) (hx : x = 0 ∨ x = 1) : sR σ (zsI s 5 7 x) := by
  obtain ⟨v1, v2, v3, v4, v5, v6, v8, v7⟩ := h.2
  refine ⟨h.1.i x (by omega), ?_, ?_, ?_, ?_, ?_, ?_, ?_, fun i => ?_⟩
  · rw [zI1, if_neg (by omega)]; exact v1
  · rw [zI1, if_neg (by omega)]; exact v2
  · rw [zI1, if_neg (by omega)]; exact v3
  · rw [zI1, if_pos ⟨rfl, rfl⟩]; exact hx
  · rw [zI1, if_neg (by omega)]; exact v5
  · rw [zI1, if_neg (by omega)]; exact v6
  · rw [zI1, if_neg (by omega)]; exact v8
  · rw [zI1, if_neg (by omega)]; exact v7 i
theorem sR.d {σ s : zS} (h : sR σ s) (x : Int32) (hx : -1 ≤ x.toInt ∧ x.toInt ≤ 60) : sR σ (zsI s 5 5 x) := by
  obtain ⟨v1, v2, v3, v4, v5, v6, v8, v7⟩ := h.2
  refine ⟨h.1.i x (by omega), ?_, ?_, ?_, ?_, ?_, ?_, ?_, fun i => ?_⟩
  · rw [zI1, if_neg (by omega)]; exact v1
  · rw [zI1, if_neg (by omega)]; exact v2
  · rw [zI1, if_neg (by omega)]; exact v3
  · rw [zI1, if_neg (by omega)]; exact v4
  · rw [zI1, if_neg (by omega)]; exact v5
  · rw [zI1, if_neg (by omega)]; exact v6
  · rw [zI1, if_pos ⟨rfl, rfl⟩]; exact hx
  · rw [zI1, if_neg (by omega)]; exact v7 i
theorem fits_sh (x : Int32) : fits .short (.int (vp_nar .short x)) = true := by
  have h1 := Int16.le_toInt x.toInt16
  have h2 := Int16.toInt_lt x.toInt16
  show fits .short (.int x.toInt16.toInt32) = true
  have e : x.toInt16.toInt32.toInt = x.toInt16.toInt := Int16.toInt_toInt32 _
  show (decide ((-32768 : Int32) ≤ x.toInt16.toInt32) && decide (x.toInt16.toInt32 ≤ (32767 : Int32))) = true
  rw [Bool.and_eq_true, decide_eq_true_iff, decide_eq_true_iff, Int32.le_iff_toInt_le, Int32.le_iff_toInt_le, e, show (-32768 : Int32).toInt = -32768 from by decide, show (32767 : Int32).toInt = 32767 from by decide]
  omega
theorem sR.c {σ s : zS} (h : sR σ s) {j : Nat} (x : Int32) : sR σ (zsI s 32 j (vp_nar .short x)) := by
  obtain ⟨v1, v2, v3, v4, v5, v6, v8, v7⟩ := h.2
  refine ⟨h.1.i _ (by omega), ?_, ?_, ?_, ?_, ?_, ?_, ?_, fun i => ?_⟩
  · rw [zI1, if_neg (by omega)]; exact v1
  · rw [zI1, if_neg (by omega)]; exact v2
  · rw [zI1, if_neg (by omega)]; exact v3
  · rw [zI1, if_neg (by omega)]; exact v4
  · rw [zI1, if_neg (by omega)]; exact v5
  · rw [zI1, if_neg (by omega)]; exact v6
  · rw [zI1, if_neg (by omega)]; exact v8
  · rw [zI1]
    split
    · exact fits_sh x
    · exact v7 i
theorem i0 : (0 : Int32).toInt = 0 := by decide
theorem vl_1 {e : Int32} (h : ¬ e < 0) : 0 ≤ e.toInt := by
  rw [Int32.lt_iff_toInt_lt, i0] at h; omega
theorem vl_2 {e : Int32} (h : 0 ≤ e) : 0 ≤ e.toInt := by
  rw [Int32.le_iff_toInt_le, i0] at h; exact h
theorem vl_3 {e : Int32} (h : ¬ e ≤ 0) : 0 ≤ e.toInt := by
  rw [Int32.le_iff_toInt_le, i0] at h; omega
theorem vh_1 {e n : Int32} (h : ¬ n ≤ e) : e < n := Int32.not_le.1 h
theorem vh_2 {e n : Int32} (h : e < n) : e < n := h
theorem vp_lh {e : Int32} {n : Nat} (lo : 0 ≤ e.toInt) (hi : e < nI n) (hn : n < 2 ^ 31) : vp_in e n := by
  rw [Int32.lt_iff_toInt_lt, nI_toInt hn] at hi
  intro z
  rcases z with z | z
  · rw [Int32.lt_iff_toInt_lt, i0] at z; omega
  · have : e.toNatClampNeg = e.toInt.toNat := rfl
    omega
theorem inc_n {x : Int32} (hx : 0 ≤ x.toInt) (h : x.toInt < 2147483647) : (x + 1).toInt = x.toInt + 1 := by
  rw [Int32.toInt_add, show (1 : Int32).toInt = 1 from by decide]
  exact Int.bmod_eq_of_le (by omega) (by omega)
theorem inc_1 {x y : Int32} (h : ¬ y ≤ x) (hx : 0 ≤ x.toInt) : 0 ≤ (x + 1).toInt ∧ (2147483648 - (x + 1).toInt).toNat < (2147483648 - x.toInt).toNat := by
  rw [Int32.le_iff_toInt_le] at h
  have h2 := Int32.toInt_lt y
  have e := inc_n hx (by omega)
  rw [e]
  omega
theorem inc_2 {x y : Int32} (h : ¬ y < x) (hx : 0 ≤ x.toInt) (hy : y.toInt ≤ 1000) : 0 ≤ (x + 1).toInt ∧ (2147483648 - (x + 1).toInt).toNat < (2147483648 - x.toInt).toNat := by
  rw [Int32.lt_iff_toInt_lt] at h
  have e := inc_n hx (by omega)
  rw [e]
  omega
theorem dec_1 {x : Int32} (h : ¬ x < 0) : ((x + (-1)).toInt + 1).toNat < (x.toInt + 1).toNat := by
  have h1 := vl_1 h
  have h2 := Int32.toInt_lt x
  have e : (x + (-1)).toInt = x.toInt - 1 := by
    rw [Int32.toInt_add, show (-1 : Int32).toInt = -1 from by decide]
    exact Int.bmod_eq_of_le (by omega) (by omega)
  rw [e]
  omega
theorem vp_m1 {e : Int32} {n : Nat} (h1 : ¬ e < 1) (h2 : e ≤ nI n) (hn : n < 2 ^ 31) : vp_in (e - 1) n := by
  rw [Int32.lt_iff_toInt_lt, show (1 : Int32).toInt = 1 from by decide] at h1
  rw [Int32.le_iff_toInt_le, nI_toInt hn] at h2
  have h3 := Int32.toInt_lt e
  have e1 : (e - 1).toInt = e.toInt - 1 := by
    rw [Int32.toInt_sub, show (1 : Int32).toInt = 1 from by decide]
    exact Int.bmod_eq_of_le (by omega) (by omega)
  refine vp_lh (by rw [e1]; omega) ?_ hn
  rw [Int32.lt_iff_toInt_lt, nI_toInt hn, e1]
  omega
theorem dp_up {e : Int32} (h1 : -1 ≤ e.toInt ∧ e.toInt ≤ 60) (h2 : ¬ nI 61 ≤ e + 1) : -1 ≤ (e + 1).toInt ∧ (e + 1).toInt ≤ 60 ∧ 0 ≤ (e + 1).toInt := by
  rw [Int32.le_iff_toInt_le, nI_toInt (by decide)] at h2
  have e1 : (e + 1).toInt = e.toInt + 1 := by
    rw [Int32.toInt_add, show (1 : Int32).toInt = 1 from by decide]
    exact Int.bmod_eq_of_le (by omega) (by omega)
  omega
theorem dp_dn {e : Int32} (h1 : -1 ≤ e.toInt ∧ e.toInt ≤ 60) (h2 : ¬ e < 0) : -1 ≤ (e - 1).toInt ∧ (e - 1).toInt ≤ 60 := by
  rw [Int32.lt_iff_toInt_lt, i0] at h2
  have e1 : (e - 1).toInt = e.toInt - 1 := by
    rw [Int32.toInt_sub, show (1 : Int32).toInt = 1 from by decide]
    exact Int.bmod_eq_of_le (by omega) (by omega)
  omega
theorem vp_p1 {e : Int32} (h1 : -1 ≤ e.toInt ∧ e.toInt ≤ 60) (h2 : ¬ nI 61 ≤ e + 1) : vp_in (e + 1) 61 := by
  have h3 := dp_up h1 h2
  refine vp_lh h3.2.2 ?_ (by decide)
  rw [Int32.lt_iff_toInt_lt, nI_toInt (by decide)]
  omega
theorem sf5_X3_leave {σ : zS} {a1 : Int32} {K : zS → Prop} {QX : zS → Prop} (hv : sV σ) (h : ∀ s, s.1 5 5 = σ.1 5 5 → sR σ s → K s) : zCT zZC zmX3_leave [.ref 5, .int a1] σ (zQv K) QX := by
  refine rX3_leave ?_
  unfold PX3_leave_0
  have k0 : sR σ σ := ⟨sK.rf, hv⟩
  refine ⟨fun c1 => h _ rfl k0, fun c1 => ⟨fun c2 => h _ rfl k0, fun c2 => ⟨fun c3 => h _ rfl k0, fun c3 => ⟨vp_lh (vl_1 c2) (vh_1 c3) (by decide), fun s1 e4 s2 e6 => ?_⟩⟩⟩⟩
  have k5 : sR σ s1 := by rw [e4]; exact k0.i _ (by omega)
  have k7 : sR σ s2 := by rw [e6]; exact k5.i _ (by omega)
  exact h _ (by rw [e6, e4, zI1, if_neg (by omega), zI1, if_neg (by omega)]) k7
theorem sf_X3_close {σ : zS} {K : zS → Prop} {QX : zS → Prop} (hv : sV σ) (h : ∀ s, sR σ s → K s) : zCT zZC zmX3_close [.ref 5] σ (zQv K) QX := by
  refine rX3_close ?_
  unfold PX3_close_0
  have k0 : sR σ σ := ⟨sK.rf, hv⟩
  refine ⟨fun c1 => h _ k0, fun c1 => ⟨fun c2 => h _ k0, fun c2 => ⟨vp_lh (vl_1 c1) (vh_1 c2) (by decide), fun s1 e3 => ⟨?_, ?_⟩⟩⟩⟩
  · rw [e3, zI1, if_neg (by omega)]; exact vp_lh (vl_1 c1) (vh_1 c2) (by decide)
  · have k4 : sR σ s1 := by rw [e3]; exact k0.i _ (by omega)
    refine sf5_X3_leave k4.2 (fun s2 e5 k50 => ?_)
    have k5 := k4.trans k50
    intro s3 e6
    have n5 : s2.1 5 5 = σ.1 5 5 := by rw [e5, e3, zI1, if_neg (by omega)]
    have k7 : sR σ s3 := by rw [e6, n5]; exact k5.d _ (dp_dn hv.2.2.2.2.2.2.1 c1)
    exact h _ k7
theorem vp_up {x : Int32} {n : Nat} (hx : 0 ≤ x.toInt) (h : ¬ nI n ≤ x) (hn : n < 2 ^ 31) : 0 ≤ (x + 1).toInt := by
  rw [Int32.le_iff_toInt_le, nI_toInt hn] at h
  rw [inc_n hx (by omega)]
  omega
theorem vp_mul {x y : Int32} (h1 : ¬ nI 64 ≤ x) (h0 : 0 ≤ x.toInt) (h2 : 0 ≤ y.toInt) (h3 : ¬ (16 : Int32) ≤ y) : vp_in (x * 16 + y) 1024 := by
  rw [Int32.le_iff_toInt_le, nI_toInt (by decide)] at h1
  rw [Int32.le_iff_toInt_le, show (16 : Int32).toInt = 16 from by decide] at h3
  have e1 : (x * 16).toInt = x.toInt * 16 := by
    rw [Int32.toInt_mul, show (16 : Int32).toInt = 16 from by decide]
    exact Int.bmod_eq_of_le (by omega) (by omega)
  have e2 : (x * 16 + y).toInt = x.toInt * 16 + y.toInt := by
    rw [Int32.toInt_add, e1]
    exact Int.bmod_eq_of_le (by omega) (by omega)
  refine vp_lh (by rw [e2]; omega) ?_ (by decide)
  rw [Int32.lt_iff_toInt_lt, nI_toInt (by decide), e2]
  omega
theorem vp_i64 {a : Int64} {n : Nat} (h1 : ¬ a < 0) (h2 : a < (nI n).toInt64) (hn : n < 2 ^ 31) : vp_in a.toInt32 n := by
  rw [Int64.lt_iff_toInt_lt, show (0 : Int64).toInt = 0 from by decide] at h1
  rw [Int64.lt_iff_toInt_lt, Int32.toInt_toInt64, nI_toInt hn] at h2
  have e : a.toInt32.toInt = a.toInt := by
    rw [Int64.toInt_toInt32]
    exact Int.bmod_eq_of_le (by omega) (by omega)
  refine vp_lh (by rw [e]; omega) ?_ hn
  rw [Int32.lt_iff_toInt_lt, nI_toInt hn, e]
  exact h2
theorem sig_lt {x : Int32} (hx : 0 ≤ x.toInt) : (2147483648 - (0 : Int32).toInt).toNat < 2147483648 + (2147483648 - x.toInt).toNat := by
  have h := Int32.toInt_lt x
  rw [i0]
  omega
theorem sf_X5_isOfOneByte {σ : zS} {a1 : Int32} {K : Int32 → zS → Prop} {QX : zS → Prop} (hv : sV σ) (h : ∀ r s, (r = 0 ∨ r = 1) → sR σ s → K r s) : zCT zZC zmX5_isOfOneByte [.int a1] σ (zQi K) QX := by
  refine rX5_isOfOneByte (fun m _ x1 s => sR σ s ∧ 0 ≤ x1.toInt ∧ x1.toInt ≤ 10000 ∧ m = (20000 - x1.toInt).toNat) ?_ ?_
  · rintro m x0 x1 τ ⟨k0, hx, hz, rfl⟩
    unfold PX5_isOfOneByte_2
    refine ⟨fun _ => ⟨Or.inl rfl, h _ _ (Or.inl rfl) k0⟩, fun c => ?_⟩
    have e1 : (x1 + 1).toInt = x1.toInt + 1 := inc_n hx (by omega)
    have c' : ¬ nI 24 ≤ x1 + 1 := c
    rw [Int32.le_iff_toInt_le, nI_toInt (by decide), e1] at c'
    have e2 : (x1 + 2).toInt = x1.toInt + 2 := by
      rw [Int32.toInt_add, show (2 : Int32).toInt = 2 from by decide]
      exact Int.bmod_eq_of_le (by omega) (by omega)
    refine ⟨vp_lh (by rw [e1]; omega) (vh_1 c) (by decide), fun _ => ⟨_, ?_, k0, ?_, ?_, rfl⟩, fun _ => ⟨?_, fun _ => ⟨Or.inl rfl, h _ _ (Or.inl rfl) k0⟩, fun _ => ⟨Or.inr rfl, h _ _ (Or.inr rfl) k0⟩⟩⟩
    · show (20000 - (x1 + 2).toInt).toNat < (20000 - x1.toInt).toNat
      rw [e2]; omega
    · rw [e2]; omega
    · rw [e2]; omega
    · refine vp_lh hx ?_ (by decide)
      rw [Int32.lt_iff_toInt_lt]
      show x1.toInt < (nI 24).toInt
      rw [nI_toInt (by decide)]
      omega
  · exact ⟨_, trivial, ⟨sK.rf, hv⟩, by decide, by decide, rfl⟩
theorem row_le {r : Int64} (h : 0 ≤ r.toInt) : ((if (16000 : Int64) < r then (16000 : Int64) else r).toInt32).toInt ≤ 16000 := by
  by_cases q : (16000 : Int64) < r
  · rw [if_pos q]; decide
  · rw [if_neg q]
    rw [Int64.lt_iff_toInt_lt, show (16000 : Int64).toInt = 16000 from by decide] at q
    have e : r.toInt32.toInt = r.toInt := by
      rw [Int64.toInt_toInt32]
      exact Int.bmod_eq_of_le (by omega) (by omega)
    rw [e]; omega
theorem nn_msb {x : Int64} : 0 ≤ x.toInt ↔ x.toBitVec.msb = false := by
  have h : x.toBitVec.msb = decide (x.toInt < 0) := BitVec.msb_eq_toInt
  rw [h, decide_eq_false_iff_not]
  omega
theorem nn_127 (x : Int32) : ∃ k, k < 128 ∧ x &&& 127 = nI k := by
  refine ⟨(x.toBitVec &&& 127#32).toNat, ?_, ?_⟩
  · rw [BitVec.toNat_and]
    exact Nat.lt_of_le_of_lt Nat.and_le_right (by decide)
  · apply Int32.toBitVec_inj.1
    show x.toBitVec &&& 127#32 = BitVec.ofNat 32 (x.toBitVec &&& 127#32).toNat
    rw [BitVec.ofNat_toNat, BitVec.setWidth_eq]
theorem nn_lN {m : Nat} (h : m < 2 ^ 63) : (lN m).toBitVec.msb = false := by
  show (BitVec.ofNat 64 m).msb = false
  rw [BitVec.msb_eq_decide, BitVec.toNat_ofNat, decide_eq_false_iff_not, Nat.mod_eq_of_lt (by omega)]
  omega
theorem nn_or {x : Int64} {r k : Int32} (hx : 0 ≤ x.toInt) (h0 : 0 ≤ k.toInt) (h : ¬ (5 : Int32) ≤ k) : 0 ≤ (x ||| (((r &&& (127 : Int32)).toInt64) <<< ((((7 : Int32) * k)).toInt64 &&& 63))).toInt := by
  obtain ⟨n, hn, e⟩ := nn_127 r
  rw [Int32.le_iff_toInt_le, show (5 : Int32).toInt = 5 from by decide] at h
  have hk : ∃ j, j < 5 ∧ k = nI j := ⟨k.toInt.toNat, by omega, Int32.toInt_inj.1 (by rw [nI_toInt (by omega)]; omega)⟩
  obtain ⟨j, hj, rfl⟩ := hk
  have e7 : (7 : Int32) * nI j = nI (7 * j) := pk_mul 7 j
  have en : (nI n).toInt64 = lN n := nI_l (by omega)
  rw [e, e7, en, wb_shl n (by omega), nn_msb, Int64.toBitVec_or, BitVec.msb_or, nn_msb.1 hx]
  rw [nn_lN, Bool.or_false]
  have h2 : (2 : Nat) ^ (7 * j) ≤ 2 ^ 28 := Nat.pow_le_pow_right (by decide) (by omega)
  have h3 : n * 2 ^ (7 * j) ≤ 128 * 2 ^ 28 := Nat.mul_le_mul (by omega) h2
  exact Nat.lt_of_le_of_lt h3 (by decide)
theorem sec_lt {r : Int32} (h : r < (13 : Int32)) : r.toInt < 13 := by
  rw [Int32.lt_iff_toInt_lt, show (13 : Int32).toInt = 13 from by decide] at h
  exact h
theorem sb_in {x y z : Int32} (hx : 0 ≤ x.toInt) (hz : 0 ≤ z.toInt) (h1 : x ≤ nI 16000 - y) (h2 : ¬ y ≤ z) : vp_in (x + z) 16000 := by
  rw [Int32.le_iff_toInt_le] at h1 h2
  have hy := Int32.toInt_lt y
  have e1 : (nI 16000 - y).toInt = 16000 - y.toInt := by
    rw [Int32.toInt_sub, nI_toInt (by decide)]
    exact Int.bmod_eq_of_le (by omega) (by omega)
  rw [e1] at h1
  have e2 : (x + z).toInt = x.toInt + z.toInt := by
    rw [Int32.toInt_add]
    exact Int.bmod_eq_of_le (by omega) (by omega)
  refine vp_lh (by rw [e2]; omega) ?_ (by decide)
  rw [Int32.lt_iff_toInt_lt, nI_toInt (by decide), e2]
  omega
theorem sf_X4_sameBytes {σ : zS} {a1 a2 a3 : Int32} {K : Int32 → zS → Prop} {QX : zS → Prop} (hv : sV σ) (h : ∀ r s, (r = 0 ∨ r = 1) → sR σ s → K r s) : zCT zZC zmX4_sameBytes [.ref 1, .int a1, .int a2, .int a3] σ (zQi K) QX := by
  refine rX4_sameBytes (fun m x1 x2 x3 x4 s => sR σ s ∧ 0 ≤ x4.toInt ∧ m = (2147483648 - x4.toInt).toNat ∧ 0 ≤ x1.toInt ∧ 0 ≤ x2.toInt ∧ x1 ≤ nI 16000 - x3 ∧ x2 ≤ nI 16000 - x3) ?_ ?_
  · rintro m x1 x2 x3 x4 τ ⟨k0, hx, rfl, h1, h2, h3, h4⟩
    unfold PX4_sameBytes_35
    exact ⟨fun _ => ⟨Or.inr rfl, h _ _ (Or.inr rfl) k0⟩, fun c => ⟨sb_in h1 hx h3 c, sb_in h2 hx h4 c, fun _ => ⟨_, (inc_1 c hx).2, k0, (inc_1 c hx).1, rfl, h1, h2, h3, h4⟩, fun _ => ⟨Or.inl rfl, h _ _ (Or.inl rfl) k0⟩⟩⟩
  · unfold PX4_sameBytes_0
    have k0 : sR σ σ := ⟨sK.rf, hv⟩
    have z : ((0 : Int32) = 0 ∨ (0 : Int32) = 1) ∧ K 0 σ := ⟨Or.inl rfl, h _ _ (Or.inl rfl) k0⟩
    exact ⟨fun _ => z, fun c1 => ⟨fun _ => z, fun c2 => ⟨fun _ => z, fun c3 => ⟨fun c4 => ⟨_, trivial, k0, by decide, rfl, vl_1 c1, vl_1 c2, Int32.not_lt.1 c3, c4⟩, fun _ => z⟩⟩⟩⟩
theorem sf_X4_fail {σ : zS} {a1 a2 : Int32} {K : zS → Prop} {QX : zS → Prop} (hv : sV σ) (h : ∀ s, sR σ s → K s) : zCT zZC zmX4_fail [.ref 1, .int a1, .int a2] σ (zQv K) QX := by
  refine rX4_fail ?_
  unfold PX4_fail_0
  refine ⟨fun z s1 e1 s2 e2 => h s2 ⟨⟨fun c i hc => ?_, fun q => absurd z q⟩, ?_⟩, fun _ => h σ ⟨sK.rf, hv⟩⟩
  · rw [e2, e1]
    exact ⟨by rw [zI1, if_neg (by omega), zI1, if_neg (by omega)], rfl⟩
  · rw [e2, e1]
    exact hv
theorem sf_X4_octet {σ : zS} {K : Int32 → zS → Prop} {QX : zS → Prop} (hv : sV σ) (h : ∀ r s, sR σ s → K r s) : zCT zZC zmX4_octet [.ref 1] σ (zQi K) QX := by
  refine rX4_octet ?_
  unfold PX4_octet_0
  have k0 : sR σ σ := ⟨sK.rf, hv⟩
  have kf : ∀ z : σ.1 1 4 = 0, ∀ s1 : zS, s1 = zsI σ 1 4 (1 : Int32) → ∀ s2 : zS, s2 = zsI s1 1 5 (s1.1 1 3) → sR σ s2 := by
    intro z s1 e1 s2 e2
    refine ⟨⟨fun c i hc => ?_, fun q => absurd z q⟩, ?_⟩
    · rw [e2, e1]
      exact ⟨by rw [zI1, if_neg (by omega), zI1, if_neg (by omega)], rfl⟩
    · rw [e2, e1]
      exact hv
  refine ⟨fun z => ⟨fun _ s1 e1 s2 e2 => h _ _ (kf z s1 e1 s2 e2), fun c1 => ⟨fun _ s1 e1 s2 e2 => h _ _ (kf z s1 e1 s2 e2), fun _ => ⟨fun c2 => ⟨vp_lh (vl_1 c1) (vh_2 c2) (by decide), fun s5 e5 => h _ _ (by rw [e5]; exact k0.i _ (by omega))⟩, fun _ s1 e1 s2 e2 => h _ _ (kf z s1 e1 s2 e2)⟩⟩⟩, fun _ => h _ _ k0⟩

theorem sf_X0_addCode {σ : zS} {a1 : Int32} {K : zS → Prop} {QX : zS → Prop} (hv : sV σ) (h : ∀ s, sR σ s → K s) : zCT zZC zmX0_addCode [.ref 8, .int a1] σ (zQv K) QX := by
  refine rX0_addCode ?_
  unfold PX0_addCode_0
  have k0 : sR σ σ := ⟨sK.rf, hv⟩
  refine ⟨fun c1 => ?_, fun c1 => ?_⟩
  · exact h _ k0
  · refine ⟨fun c2 => ?_, fun c2 => ?_⟩
    · exact h _ k0
    · refine ⟨(vp_lh (vl_1 c1) (vh_1 c2) (by decide)), ?_⟩
      intro s1 e3
      have k4 : sR σ s1 := by rw [e3]; exact k0.c _
      intro s2 e5
      have k6 : sR σ s2 := by rw [e5]; exact k4.i _ (by omega)
      exact h _ k6
theorem sf_X0_beginBody {σ : zS} {a1 : Int32} {a2 : Int32} {K : zS → Prop} {QX : zS → Prop} (hv : sV σ) (h : ∀ s, sR σ s → K s) : zCT zZC zmX0_beginBody [.ref 8, .int a1, .int a2] σ (zQv K) QX := by
  refine rX0_beginBody ?_
  unfold PX0_beginBody_0
  have k0 : sR σ σ := ⟨sK.rf, hv⟩
  refine ⟨fun c1 => ?_, fun c1 => ?_⟩
  · exact h _ k0
  · refine ⟨fun c2 => ?_, fun c2 => ?_⟩
    · exact h _ k0
    · refine ⟨(vp_lh (vl_1 c1) (vh_1 c2) (by decide)), ?_⟩
      intro s1 e3
      have k4 : sR σ s1 := by rw [e3]; exact k0.i _ (by omega)
      refine ⟨(vp_lh (vl_1 c1) (vh_1 c2) (by decide)), ?_⟩
      intro s2 e5
      have k6 : sR σ s2 := by rw [e5]; exact k4.i _ (by omega)
      exact h _ k6
theorem sf_X0_endBody {σ : zS} {a1 : Int32} {K : zS → Prop} {QX : zS → Prop} (hv : sV σ) (h : ∀ s, sR σ s → K s) : zCT zZC zmX0_endBody [.ref 8, .int a1] σ (zQv K) QX := by
  refine rX0_endBody ?_
  unfold PX0_endBody_0
  have k0 : sR σ σ := ⟨sK.rf, hv⟩
  refine ⟨fun c1 => ?_, fun c1 => ?_⟩
  · exact h _ k0
  · refine ⟨fun c2 => ?_, fun c2 => ?_⟩
    · exact h _ k0
    · refine ⟨(vp_lh (vl_1 c1) (vh_1 c2) (by decide)), ?_⟩
      refine ⟨(vp_lh (vl_1 c1) (vh_1 c2) (by decide)), ?_⟩
      intro s1 e3
      have k4 : sR σ s1 := by rw [e3]; exact k0.i _ (by omega)
      exact h _ k4
theorem sf_X0_fillCounts {σ : zS} {K : zS → Prop} {QX : zS → Prop} (hv : sV σ) (h : ∀ s, sR σ s → K s) : zCT zZC zmX0_fillCounts [.ref 8, .ref 2] σ (zQv K) QX := by
  refine rX0_fillCounts (fun m x2 s => sR σ s ∧ 0 ≤ x2.toInt ∧ m = (2147483648 - x2.toInt).toNat) ?_ ?_
  · rintro m x2 τ ⟨k0, hx, rfl⟩
    unfold PX0_fillCounts_2
    refine ⟨fun c1 => ?_, fun c1 => ?_⟩
    · refine ⟨(by unfold vp_in; decide), ?_⟩
      intro s1 e2
      have k3 : sR σ s1 := by rw [e2]; exact k0.i _ (by omega)
      exact h _ k3
    · refine ⟨fun c4 => ?_, fun c4 => ?_⟩
      · refine ⟨fun c5 => ?_, fun c5 => ?_⟩
        · refine ⟨(vp_lh hx (vh_1 c1) (by decide)), ?_⟩
          intro s2 e6
          have k7 : sR σ s2 := by rw [e6]; exact k0.i _ (by omega)
          exact ⟨_, (inc_1 c1 hx).2, k7, (inc_1 c1 hx).1, rfl⟩
        · exact absurd (by decide) c5
      · refine ⟨fun c8 => ?_, fun c8 => ?_⟩
        · refine ⟨fun c9 => ?_, fun c9 => ?_⟩
          · refine ⟨(vp_lh hx (vh_1 c1) (by decide)), ?_⟩
            intro s4 e10
            have k11 : sR σ s4 := by rw [e10]; exact k0.i _ (by omega)
            exact ⟨_, (inc_1 c1 hx).2, k11, (inc_1 c1 hx).1, rfl⟩
          · exact absurd (by decide) c9
        · refine ⟨fun c12 => ?_, fun c12 => ?_⟩
          · refine ⟨fun c13 => ?_, fun c13 => ?_⟩
            · refine ⟨(vp_lh hx (vh_1 c1) (by decide)), ?_⟩
              intro s6 e14
              have k15 : sR σ s6 := by rw [e14]; exact k0.i _ (by omega)
              exact ⟨_, (inc_1 c1 hx).2, k15, (inc_1 c1 hx).1, rfl⟩
            · exact absurd (by decide) c13
          · refine ⟨fun c16 => ?_, fun c16 => ?_⟩
            · refine ⟨fun c17 => ?_, fun c17 => ?_⟩
              · refine ⟨(vp_lh hx (vh_1 c1) (by decide)), ?_⟩
                intro s8 e18
                have k19 : sR σ s8 := by rw [e18]; exact k0.i _ (by omega)
                exact ⟨_, (inc_1 c1 hx).2, k19, (inc_1 c1 hx).1, rfl⟩
              · exact absurd (by decide) c17
            · refine ⟨fun c20 => ?_, fun c20 => ?_⟩
              · exact absurd c20 (by decide)
              · refine ⟨(vp_lh hx (vh_1 c1) (by decide)), ?_⟩
                refine ⟨(vp_lh hx (vh_1 c1) (by decide)), ?_⟩
                intro s11 e21
                have k22 : sR σ s11 := by rw [e21]; exact k0.i _ (by omega)
                exact ⟨_, (inc_1 c1 hx).2, k22, (inc_1 c1 hx).1, rfl⟩
  · unfold PX0_fillCounts_0
    have k0 : sR σ σ := ⟨sK.rf, hv⟩
    exact ⟨_, trivial, k0, by decide, rfl⟩
theorem sf_X1_begin {σ : zS} {K : zS → Prop} {QX : zS → Prop} (hv : sV σ) (h : ∀ s, sR σ s → K s) : zCT zZC zmX1_begin [.ref 4] σ (zQv K) QX := by
  refine rX1_begin ?_
  unfold PX1_begin_0
  have k0 : sR σ σ := ⟨sK.rf, hv⟩
  intro s1 e1
  have k2 : sR σ s1 := by rw [e1]; exact k0.i _ (by omega)
  refine ⟨Or.inr rfl, ?_⟩
  intro s2 e3
  have k4 : sR σ s2 := by rw [e3]; exact k2.i _ (by omega)
  exact h _ k4
theorem sf_X2_addFunction {σ : zS} {a1 : Int64} {K : zS → Prop} {QX : zS → Prop} (hv : sV σ) (h : ∀ s, sR σ s → K s) : zCT zZC zmX2_addFunction [.ref 2, .long a1] σ (zQv K) QX := by
  refine rX2_addFunction ?_
  unfold PX2_addFunction_0
  have k0 : sR σ σ := ⟨sK.rf, hv⟩
  refine ⟨fun c1 => ?_, fun c1 => ?_⟩
  · exact h _ k0
  · refine ⟨(by unfold vp_in; decide), ?_⟩
    refine ⟨fun c2 => ?_, fun c2 => ?_⟩
    · refine ⟨(vp_lh k0.2.1 (vh_1 c1) (by decide)), ?_⟩
      intro s1 e3
      have k4 : sR σ s1 := by rw [e3]; exact k0.i _ (by omega)
      intro s2 e5
      have k6 : sR σ s2 := by rw [e5]; exact k4.v _ (by omega) (vp_up k4.2.1 (by rw [e3, zI1, if_neg (by omega)]; exact c1) (by decide))
      exact h _ k6
    · refine ⟨(vp_lh k0.2.1 (vh_1 c1) (by decide)), ?_⟩
      intro s3 e7
      have k8 : sR σ s3 := by rw [e7]; exact k0.i _ (by omega)
      intro s4 e9
      have k10 : sR σ s4 := by rw [e9]; exact k8.v _ (by omega) (vp_up k8.2.1 (by rw [e7, zI1, if_neg (by omega)]; exact c1) (by decide))
      exact h _ k10
theorem sf_X2_addGlobal {σ : zS} {a1 : Int32} {a2 : Int32} {K : zS → Prop} {QX : zS → Prop} (hv : sV σ) (h : ∀ s, sR σ s → K s) : zCT zZC zmX2_addGlobal [.ref 2, .int a1, .int a2] σ (zQv K) QX := by
  refine rX2_addGlobal ?_
  unfold PX2_addGlobal_0
  have k0 : sR σ σ := ⟨sK.rf, hv⟩
  refine ⟨fun c1 => ?_, fun c1 => ?_⟩
  · exact h _ k0
  · refine ⟨(vp_lh k0.2.2.1 (vh_1 c1) (by decide)), ?_⟩
    intro s1 e2
    have k3 : sR σ s1 := by rw [e2]; exact k0.i _ (by omega)
    refine ⟨(by rw [e2, zI1, if_neg (by omega)]; exact (vp_lh k0.2.2.1 (vh_1 c1) (by decide))), ?_⟩
    intro s2 e4
    have k5 : sR σ s2 := by rw [e4]; exact k3.i _ (by omega)
    intro s3 e6
    have k7 : sR σ s3 := by rw [e6]; exact k5.v _ (by omega) (vp_up k5.2.2.1 (by rw [e4, zI1, if_neg (by omega), e2, zI1, if_neg (by omega)]; exact c1) (by decide))
    exact h _ k7
theorem sf_X2_addParameter {σ : zS} {a1 : Int32} {a2 : Int32} {K : zS → Prop} {QX : zS → Prop} (hv : sV σ) (ha : 0 ≤ a1.toInt) (h : ∀ s, sR σ s → K s) : zCT zZC zmX2_addParameter [.ref 2, .int a1, .int a2] σ (zQv K) QX := by
  refine rX2_addParameter ?_
  unfold PX2_addParameter_0
  have k0 : sR σ σ := ⟨sK.rf, hv⟩
  refine ⟨(by unfold vp_in; decide), ?_⟩
  refine ⟨fun c1 => ?_, fun c1 => ?_⟩
  · exact h _ k0
  · refine ⟨fun c2 => ?_, fun c2 => ?_⟩
    · exact h _ k0
    · refine ⟨fun c3 => ?_, fun c3 => ?_⟩
      · exact h _ k0
      · refine ⟨(vp_mul c1 k0.2.2.2.2.2.1 ha c2), ?_⟩
        intro s1 e4
        have k5 : sR σ s1 := by rw [e4]; exact k0.i _ (by omega)
        refine ⟨(vp_lh k0.2.2.2.2.2.1 (vh_1 c1) (by decide)), ?_⟩
        intro s2 e6
        have k7 : sR σ s2 := by rw [e6]; exact k5.i _ (by omega)
        exact h _ k7
theorem sf_X2_changesGlobal {σ : zS} {a1 : Int32} {K : Int32 → zS → Prop} {QX : zS → Prop} (hv : sV σ) (h : ∀ r s, (r = 0 ∨ r = 1) → sR σ s → K r s) : zCT zZC zmX2_changesGlobal [.ref 2, .int a1] σ (zQi K) QX := by
  refine rX2_changesGlobal ?_
  unfold PX2_changesGlobal_0
  have k0 : sR σ σ := ⟨sK.rf, hv⟩
  refine ⟨fun c1 => ?_, fun c1 => ?_⟩
  · refine ⟨Or.inl rfl, ?_⟩
    exact h _ _ (Or.inl rfl) k0
  · refine ⟨fun c2 => ?_, fun c2 => ?_⟩
    · refine ⟨Or.inl rfl, ?_⟩
      exact h _ _ (Or.inl rfl) k0
    · refine ⟨(vp_lh (vl_1 c1) (vh_1 c2) (by decide)), ?_⟩
      refine ⟨fun c3 => ?_, fun c3 => ?_⟩
      · refine ⟨Or.inl rfl, ?_⟩
        exact h _ _ (Or.inl rfl) k0
      · refine ⟨Or.inr rfl, ?_⟩
        exact h _ _ (Or.inr rfl) k0
theorem sf_X2_countOfKind {σ : zS} {a1 : Int32} {K : Int32 → zS → Prop} {QX : zS → Prop} (hv : sV σ) (h : ∀ r s, sR σ s → K r s) : zCT zZC zmX2_countOfKind [.ref 2, .int a1] σ (zQi K) QX := by
  refine rX2_countOfKind ?_
  unfold PX2_countOfKind_0
  have k0 : sR σ σ := ⟨sK.rf, hv⟩
  refine ⟨fun c1 => ?_, fun c1 => ?_⟩
  · exact h _ _ k0
  · refine ⟨fun c2 => ?_, fun c2 => ?_⟩
    · exact h _ _ k0
    · refine ⟨fun c3 => ?_, fun c3 => ?_⟩
      · exact h _ _ k0
      · exact h _ _ k0
theorem sf_X2_firstWrong {σ : zS} {K : Int32 → zS → Prop} {QX : zS → Prop} (hv : sV σ) (h : ∀ r s, sR σ s → K r s) : zCT zZC zmX2_firstWrong [.ref 2] σ (zQi K) QX := by
  refine rX2_firstWrong (fun m x1 s => sR σ s ∧ 0 ≤ x1.toInt ∧ m = (2147483648 - x1.toInt).toNat) ?_ ?_
  · rintro m x1 τ ⟨k0, hx, rfl⟩
    unfold PX2_firstWrong_2
    refine ⟨fun c1 => ?_, fun c1 => ?_⟩
    · exact h _ _ k0
    · refine ⟨(vp_lh hx (vh_1 c1) (by decide)), ?_⟩
      refine ⟨fun c2 => ?_, fun c2 => ?_⟩
      · exact ⟨_, (inc_1 c1 hx).2, k0, (inc_1 c1 hx).1, rfl⟩
      · refine ⟨(vp_lh hx (vh_1 c1) (by decide)), ?_⟩
        exact h _ _ k0
  · unfold PX2_firstWrong_0
    have k0 : sR σ σ := ⟨sK.rf, hv⟩
    exact ⟨_, trivial, k0, by decide, rfl⟩
theorem sf_X2_noteWrong {σ : zS} {a1 : Int32} {a2 : Int32} {K : zS → Prop} {QX : zS → Prop} (hv : sV σ) (h : ∀ s, sR σ s → K s) : zCT zZC zmX2_noteWrong [.ref 2, .int a1, .int a2] σ (zQv K) QX := by
  refine rX2_noteWrong ?_
  unfold PX2_noteWrong_0
  have k0 : sR σ σ := ⟨sK.rf, hv⟩
  refine ⟨fun c1 => ?_, fun c1 => ?_⟩
  · exact h _ k0
  · refine ⟨fun c2 => ?_, fun c2 => ?_⟩
    · exact h _ k0
    · refine ⟨(vp_lh (vl_1 c1) (vh_1 c2) (by decide)), ?_⟩
      refine ⟨fun c3 => ?_, fun c3 => ?_⟩
      · exact h _ k0
      · refine ⟨(vp_lh (vl_1 c1) (vh_1 c2) (by decide)), ?_⟩
        intro s1 e4
        have k5 : sR σ s1 := by rw [e4]; exact k0.i _ (by omega)
        exact h _ k5
theorem sf_X2_parameter {σ : zS} {a1 : Int32} {a2 : Int32} {K : Int32 → zS → Prop} {QX : zS → Prop} (hv : sV σ) (h : ∀ r s, sR σ s → K r s) : zCT zZC zmX2_parameter [.ref 2, .int a1, .int a2] σ (zQi K) QX := by
  refine rX2_parameter ?_
  unfold PX2_parameter_0
  have k0 : sR σ σ := ⟨sK.rf, hv⟩
  refine ⟨fun c1 => ?_, fun c1 => ?_⟩
  · exact h _ _ k0
  · refine ⟨fun c2 => ?_, fun c2 => ?_⟩
    · exact h _ _ k0
    · refine ⟨(vp_lh (vl_1 c1) (vh_1 c2) (by decide)), ?_⟩
      exact h _ _ k0
theorem sf_X2_parameterCount {σ : zS} {a1 : Int32} {K : Int32 → zS → Prop} {QX : zS → Prop} (hv : sV σ) (h : ∀ r s, sR σ s → K r s) : zCT zZC zmX2_parameterCount [.ref 2, .int a1] σ (zQi K) QX := by
  refine rX2_parameterCount ?_
  unfold PX2_parameterCount_0
  have k0 : sR σ σ := ⟨sK.rf, hv⟩
  refine ⟨fun c1 => ?_, fun c1 => ?_⟩
  · exact h _ _ k0
  · refine ⟨fun c2 => ?_, fun c2 => ?_⟩
    · exact h _ _ k0
    · refine ⟨(vp_lh (vl_1 c1) (vh_1 c2) (by decide)), ?_⟩
      exact h _ _ k0
theorem sf_X2_resultOf {σ : zS} {a1 : Int32} {K : Int32 → zS → Prop} {QX : zS → Prop} (hv : sV σ) (h : ∀ r s, sR σ s → K r s) : zCT zZC zmX2_resultOf [.ref 2, .int a1] σ (zQi K) QX := by
  refine rX2_resultOf ?_
  unfold PX2_resultOf_0
  have k0 : sR σ σ := ⟨sK.rf, hv⟩
  refine ⟨fun c1 => ?_, fun c1 => ?_⟩
  · exact h _ _ k0
  · refine ⟨fun c2 => ?_, fun c2 => ?_⟩
    · exact h _ _ k0
    · refine ⟨(vp_lh (vl_1 c1) (vh_1 c2) (by decide)), ?_⟩
      exact h _ _ k0
theorem sf_X2_signatureOf {σ : zS} {a1 : Int64} {K : Int32 → zS → Prop} {QX : zS → Prop} (hv : sV σ) (h : ∀ r s, sR σ s → K r s) : zCT zZC zmX2_signatureOf [.ref 2, .long a1] σ (zQi K) QX := by
  refine rX2_signatureOf ?_
  unfold PX2_signatureOf_0
  have k0 : sR σ σ := ⟨sK.rf, hv⟩
  refine ⟨fun c1 => ?_, fun c1 => ?_⟩
  · exact h _ _ k0
  · refine ⟨fun c2 => ?_, fun c2 => ?_⟩
    · exact h _ _ k0
    · refine ⟨fun c3 => ?_, fun c3 => ?_⟩
      · refine ⟨(vp_i64 c1 c3 (by decide)), ?_⟩
        exact h _ _ k0
      · exact h _ _ k0
theorem sf_X2_typeOfGlobal {σ : zS} {a1 : Int32} {K : Int32 → zS → Prop} {QX : zS → Prop} (hv : sV σ) (h : ∀ r s, sR σ s → K r s) : zCT zZC zmX2_typeOfGlobal [.ref 2, .int a1] σ (zQi K) QX := by
  refine rX2_typeOfGlobal ?_
  unfold PX2_typeOfGlobal_0
  have k0 : sR σ σ := ⟨sK.rf, hv⟩
  refine ⟨fun c1 => ?_, fun c1 => ?_⟩
  · exact h _ _ k0
  · refine ⟨fun c2 => ?_, fun c2 => ?_⟩
    · exact h _ _ k0
    · refine ⟨(vp_lh (vl_1 c1) (vh_1 c2) (by decide)), ?_⟩
      exact h _ _ k0
theorem sf_X3_bodyResult {σ : zS} {K : Int32 → zS → Prop} {QX : zS → Prop} (hv : sV σ) (h : ∀ r s, sR σ s → K r s) : zCT zZC zmX3_bodyResult [.ref 5] σ (zQi K) QX := by
  refine rX3_bodyResult ?_
  unfold PX3_bodyResult_0
  have k0 : sR σ σ := ⟨sK.rf, hv⟩
  refine ⟨(by unfold vp_in; decide), ?_⟩
  exact h _ _ k0
theorem sf_X3_demand {σ : zS} {a1 : Int32} {K : zS → Prop} {QX : zS → Prop} (hv : sV σ) (h : ∀ s, sR σ s → K s) : zCT zZC zmX3_demand [.ref 5, .int a1] σ (zQv K) QX := by
  refine rX3_demand ?_
  unfold PX3_demand_0
  have k0 : sR σ σ := ⟨sK.rf, hv⟩
  refine ⟨fun c1 => ?_, fun c1 => ?_⟩
  · refine ⟨Or.inl rfl, ?_⟩
    intro s1 e2
    have k3 : sR σ s1 := by rw [e2]; exact k0.r _ (Or.inl rfl)
    exact h _ k3
  · exact h _ k0
theorem sf_X3_forget {σ : zS} {K : zS → Prop} {QX : zS → Prop} (hv : sV σ) (h : ∀ s, sR σ s → K s) : zCT zZC zmX3_forget [.ref 5] σ (zQv K) QX := by
  refine rX3_forget ?_
  unfold PX3_forget_0
  have k0 : sR σ σ := ⟨sK.rf, hv⟩
  refine ⟨fun c1 => ?_, fun c1 => ?_⟩
  · exact h _ k0
  · refine ⟨fun c2 => ?_, fun c2 => ?_⟩
    · exact h _ k0
    · refine ⟨(vp_lh (vl_1 c1) (vh_1 c2) (by decide)), ?_⟩
      intro s1 e3
      have k4 : sR σ s1 := by rw [e3]; exact k0.i _ (by omega)
      refine ⟨(by rw [e3, zI1, if_neg (by omega)]; exact (vp_lh (vl_1 c1) (vh_1 c2) (by decide))), ?_⟩
      intro s2 e5
      have k6 : sR σ s2 := by rw [e5]; exact k4.i _ (by omega)
      exact h _ k6
theorem sf_X3_isEmpty {σ : zS} {K : Int32 → zS → Prop} {QX : zS → Prop} (hv : sV σ) (h : ∀ r s, (r = 0 ∨ r = 1) → sR σ s → K r s) : zCT zZC zmX3_isEmpty [.ref 5] σ (zQi K) QX := by
  refine rX3_isEmpty ?_
  unfold PX3_isEmpty_0
  have k0 : sR σ σ := ⟨sK.rf, hv⟩
  refine ⟨fun c1 => ?_, fun c1 => ?_⟩
  · refine ⟨Or.inl rfl, ?_⟩
    exact h _ _ (Or.inl rfl) k0
  · refine ⟨fun c2 => ?_, fun c2 => ?_⟩
    · refine ⟨Or.inl rfl, ?_⟩
      exact h _ _ (Or.inl rfl) k0
    · refine ⟨(vp_lh (vl_1 c1) (vh_1 c2) (by decide)), ?_⟩
      refine ⟨fun c3 => ?_, fun c3 => ?_⟩
      · refine ⟨Or.inr rfl, ?_⟩
        exact h _ _ (Or.inr rfl) k0
      · refine ⟨Or.inl rfl, ?_⟩
        exact h _ _ (Or.inl rfl) k0
theorem sf_X3_labelType {σ : zS} {a1 : Int64} {K : Int32 → zS → Prop} {QX : zS → Prop} (hv : sV σ) (h : ∀ r s, sR σ s → K r s) : zCT zZC zmX3_labelType [.ref 5, .long a1] σ (zQi K) QX := by
  refine rX3_labelType ?_
  unfold PX3_labelType_0
  have k0 : sR σ σ := ⟨sK.rf, hv⟩
  refine ⟨fun c1 => ?_, fun c1 => ?_⟩
  · refine ⟨fun c2 => ?_, fun c2 => ?_⟩
    · refine ⟨Or.inl rfl, ?_⟩
      intro s1 e3
      have k4 : sR σ s1 := by rw [e3]; exact k0.r _ (Or.inl rfl)
      exact h _ _ k4
    · exact absurd (by decide) c2
  · refine ⟨fun c5 => ?_, fun c5 => ?_⟩
    · refine ⟨fun c6 => ?_, fun c6 => ?_⟩
      · refine ⟨Or.inl rfl, ?_⟩
        intro s3 e7
        have k8 : sR σ s3 := by rw [e7]; exact k0.r _ (Or.inl rfl)
        exact h _ _ k8
      · exact absurd (by decide) c6
    · refine ⟨fun c9 => ?_, fun c9 => ?_⟩
      · refine ⟨Or.inl rfl, ?_⟩
        intro s5 e10
        have k11 : sR σ s5 := by rw [e10]; exact k0.r _ (Or.inl rfl)
        exact h _ _ k11
      · refine ⟨fun c12 => ?_, fun c12 => ?_⟩
        · refine ⟨(vp_lh (vl_1 c9) (vh_2 c12) (by decide)), ?_⟩
          refine ⟨fun c13 => ?_, fun c13 => ?_⟩
          · exact h _ _ k0
          · refine ⟨(vp_lh (vl_1 c9) (vh_2 c12) (by decide)), ?_⟩
            exact h _ _ k0
        · refine ⟨Or.inl rfl, ?_⟩
          intro s6 e14
          have k15 : sR σ s6 := by rw [e14]; exact k0.r _ (Or.inl rfl)
          exact h _ _ k15
theorem sf_X3_leave {σ : zS} {a1 : Int32} {K : zS → Prop} {QX : zS → Prop} (hv : sV σ) (h : ∀ s, sR σ s → K s) : zCT zZC zmX3_leave [.ref 5, .int a1] σ (zQv K) QX := by
  refine rX3_leave ?_
  unfold PX3_leave_0
  have k0 : sR σ σ := ⟨sK.rf, hv⟩
  refine ⟨fun c1 => ?_, fun c1 => ?_⟩
  · exact h _ k0
  · refine ⟨fun c2 => ?_, fun c2 => ?_⟩
    · exact h _ k0
    · refine ⟨fun c3 => ?_, fun c3 => ?_⟩
      · exact h _ k0
      · refine ⟨(vp_lh (vl_1 c2) (vh_1 c3) (by decide)), ?_⟩
        intro s1 e4
        have k5 : sR σ s1 := by rw [e4]; exact k0.i _ (by omega)
        intro s2 e6
        have k7 : sR σ s2 := by rw [e6]; exact k5.i _ (by omega)
        exact h _ k7
theorem sf_X3_open {σ : zS} {a1 : Int32} {a2 : Int32} {K : zS → Prop} {QX : zS → Prop} (hv : sV σ) (h : ∀ s, sR σ s → K s) : zCT zZC zmX3_open [.ref 5, .int a1, .int a2] σ (zQv K) QX := by
  refine rX3_open ?_
  unfold PX3_open_0
  have k0 : sR σ σ := ⟨sK.rf, hv⟩
  refine ⟨fun c1 => ?_, fun c1 => ?_⟩
  · exact h _ k0
  · refine ⟨fun c2 => ?_, fun c2 => ?_⟩
    · exact h _ k0
    · intro s1 e3
      have k4 : sR σ s1 := by rw [e3]; exact k0.d _ ⟨(dp_up k0.2.2.2.2.2.2.2.1 c2).1, (dp_up k0.2.2.2.2.2.2.2.1 c2).2.1⟩
      refine ⟨(by rw [e3, zI1, if_pos ⟨rfl, rfl⟩]; exact (vp_p1 k0.2.2.2.2.2.2.2.1 c2)), ?_⟩
      intro s2 e5
      have k6 : sR σ s2 := by rw [e5]; exact k4.i _ (by omega)
      refine ⟨(by rw [e5, zI1, if_neg (by omega)]; exact (by rw [e3, zI1, if_pos ⟨rfl, rfl⟩]; exact (vp_p1 k0.2.2.2.2.2.2.2.1 c2))), ?_⟩
      intro s3 e7
      have k8 : sR σ s3 := by rw [e7]; exact k6.i _ (by omega)
      refine ⟨(by rw [e7, zI1, if_neg (by omega)]; exact (by rw [e5, zI1, if_neg (by omega)]; exact (by rw [e3, zI1, if_pos ⟨rfl, rfl⟩]; exact (vp_p1 k0.2.2.2.2.2.2.2.1 c2)))), ?_⟩
      intro s4 e9
      have k10 : sR σ s4 := by rw [e9]; exact k8.i _ (by omega)
      refine ⟨(by rw [e9, zI1, if_neg (by omega)]; exact (by rw [e7, zI1, if_neg (by omega)]; exact (by rw [e5, zI1, if_neg (by omega)]; exact (by rw [e3, zI1, if_pos ⟨rfl, rfl⟩]; exact (vp_p1 k0.2.2.2.2.2.2.2.1 c2))))), ?_⟩
      intro s5 e11
      have k12 : sR σ s5 := by rw [e11]; exact k10.i _ (by omega)
      exact h _ k12
theorem sf_X3_openedBy {σ : zS} {K : Int32 → zS → Prop} {QX : zS → Prop} (hv : sV σ) (h : ∀ r s, sR σ s → K r s) : zCT zZC zmX3_openedBy [.ref 5] σ (zQi K) QX := by
  refine rX3_openedBy ?_
  unfold PX3_openedBy_0
  have k0 : sR σ σ := ⟨sK.rf, hv⟩
  refine ⟨fun c1 => ?_, fun c1 => ?_⟩
  · exact h _ _ k0
  · refine ⟨fun c2 => ?_, fun c2 => ?_⟩
    · exact h _ _ k0
    · refine ⟨(vp_lh (vl_1 c1) (vh_1 c2) (by decide)), ?_⟩
      exact h _ _ k0
theorem sf_X3_result {σ : zS} {K : Int32 → zS → Prop} {QX : zS → Prop} (hv : sV σ) (h : ∀ r s, sR σ s → K r s) : zCT zZC zmX3_result [.ref 5] σ (zQi K) QX := by
  refine rX3_result ?_
  unfold PX3_result_0
  have k0 : sR σ σ := ⟨sK.rf, hv⟩
  refine ⟨fun c1 => ?_, fun c1 => ?_⟩
  · exact h _ _ k0
  · refine ⟨fun c2 => ?_, fun c2 => ?_⟩
    · exact h _ _ k0
    · refine ⟨(vp_lh (vl_1 c1) (vh_1 c2) (by decide)), ?_⟩
      exact h _ _ k0
theorem sf_X3_take {σ : zS} {a1 : Int32} {K : Int32 → zS → Prop} {QX : zS → Prop} (hv : sV σ) (h : ∀ r s, sR σ s → K r s) : zCT zZC zmX3_take [.ref 5, .int a1] σ (zQi K) QX := by
  refine rX3_take ?_
  unfold PX3_take_0
  have k0 : sR σ σ := ⟨sK.rf, hv⟩
  refine ⟨fun c1 => ?_, fun c1 => ?_⟩
  · exact h _ _ k0
  · refine ⟨fun c2 => ?_, fun c2 => ?_⟩
    · exact h _ _ k0
    · refine ⟨fun c3 => ?_, fun c3 => ?_⟩
      · refine ⟨(vp_lh (vl_1 c2) (vh_2 c3) (by decide)), ?_⟩
        refine ⟨fun c4 => ?_, fun c4 => ?_⟩
        · unfold PX3_take_64
          refine ⟨fun c6 => ?_, fun c6 => ?_⟩
          · refine ⟨Or.inl rfl, ?_⟩
            intro s1_5 e7
            have k8 : sR σ s1_5 := by rw [e7]; exact k0.r _ (Or.inl rfl)
            exact h _ _ k8
          · refine ⟨(vp_lh (vl_1 c2) (vh_2 c3) (by decide)), ?_⟩
            refine ⟨fun c9 => ?_, fun c9 => ?_⟩
            · refine ⟨Or.inl rfl, ?_⟩
              intro s2_5 e10
              have k11 : sR σ s2_5 := by rw [e10]; exact k0.r _ (Or.inl rfl)
              exact h _ _ k11
            · refine ⟨Or.inr rfl, ?_⟩
              intro s3_5 e12
              have k13 : sR σ s3_5 := by rw [e12]; exact k0.r _ (Or.inr rfl)
              exact h _ _ k13
        · refine ⟨fun c14 => ?_, fun c14 => ?_⟩
          · unfold PX3_take_64
            refine ⟨fun c16 => ?_, fun c16 => ?_⟩
            · refine ⟨Or.inl rfl, ?_⟩
              intro s1_15 e17
              have k18 : sR σ s1_15 := by rw [e17]; exact k0.r _ (Or.inl rfl)
              exact h _ _ k18
            · refine ⟨(vp_lh (vl_1 c2) (vh_2 c3) (by decide)), ?_⟩
              refine ⟨fun c19 => ?_, fun c19 => ?_⟩
              · refine ⟨Or.inl rfl, ?_⟩
                intro s2_15 e20
                have k21 : sR σ s2_15 := by rw [e20]; exact k0.r _ (Or.inl rfl)
                exact h _ _ k21
              · refine ⟨Or.inr rfl, ?_⟩
                intro s3_15 e22
                have k23 : sR σ s3_15 := by rw [e22]; exact k0.r _ (Or.inr rfl)
                exact h _ _ k23
          · refine ⟨fun c24 => ?_, fun c24 => ?_⟩
            · intro s1 e25
              have k26 : sR σ s1 := by rw [e25]; exact k0.i _ (by omega)
              refine ⟨(by rw [e25, zI1, if_pos ⟨rfl, rfl⟩]; exact (vp_m1 c14 c24 (by decide))), ?_⟩
              refine ⟨fun c27 => ?_, fun c27 => ?_⟩
              · refine ⟨Or.inl rfl, ?_⟩
                intro s2 e28
                have k29 : sR σ s2 := by rw [e28]; exact k26.r _ (Or.inl rfl)
                exact h _ _ k29
              · refine ⟨fun c30 => ?_, fun c30 => ?_⟩
                · refine ⟨Or.inr rfl, ?_⟩
                  intro s3 e31
                  have k32 : sR σ s3 := by rw [e31]; exact k26.r _ (Or.inr rfl)
                  exact h _ _ k32
                · refine ⟨fun c33 => ?_, fun c33 => ?_⟩
                  · refine ⟨Or.inr rfl, ?_⟩
                    intro s4 e34
                    have k35 : sR σ s4 := by rw [e34]; exact k26.r _ (Or.inr rfl)
                    exact h _ _ k35
                  · refine ⟨fun c36 => ?_, fun c36 => ?_⟩
                    · refine ⟨Or.inr rfl, ?_⟩
                      intro s5 e37
                      have k38 : sR σ s5 := by rw [e37]; exact k26.r _ (Or.inr rfl)
                      exact h _ _ k38
                    · refine ⟨Or.inl rfl, ?_⟩
                      intro s6 e39
                      have k40 : sR σ s6 := by rw [e39]; exact k26.r _ (Or.inl rfl)
                      exact h _ _ k40
            · unfold PX3_take_64
              refine ⟨fun c42 => ?_, fun c42 => ?_⟩
              · refine ⟨Or.inl rfl, ?_⟩
                intro s1_41 e43
                have k44 : sR σ s1_41 := by rw [e43]; exact k0.r _ (Or.inl rfl)
                exact h _ _ k44
              · refine ⟨(vp_lh (vl_1 c2) (vh_2 c3) (by decide)), ?_⟩
                refine ⟨fun c45 => ?_, fun c45 => ?_⟩
                · refine ⟨Or.inl rfl, ?_⟩
                  intro s2_41 e46
                  have k47 : sR σ s2_41 := by rw [e46]; exact k0.r _ (Or.inl rfl)
                  exact h _ _ k47
                · refine ⟨Or.inr rfl, ?_⟩
                  intro s3_41 e48
                  have k49 : sR σ s3_41 := by rw [e48]; exact k0.r _ (Or.inr rfl)
                  exact h _ _ k49
      · exact h _ _ k0
theorem sf_X3_turnToElse {σ : zS} {K : zS → Prop} {QX : zS → Prop} (hv : sV σ) (h : ∀ s, sR σ s → K s) : zCT zZC zmX3_turnToElse [.ref 5] σ (zQv K) QX := by
  refine rX3_turnToElse ?_
  unfold PX3_turnToElse_0
  have k0 : sR σ σ := ⟨sK.rf, hv⟩
  refine ⟨fun c1 => ?_, fun c1 => ?_⟩
  · exact h _ k0
  · refine ⟨fun c2 => ?_, fun c2 => ?_⟩
    · exact h _ k0
    · refine ⟨(vp_lh (vl_1 c1) (vh_1 c2) (by decide)), ?_⟩
      intro s1 e3
      have k4 : sR σ s1 := by rw [e3]; exact k0.i _ (by omega)
      refine ⟨(by rw [e3, zI1, if_neg (by omega)]; exact (vp_lh (vl_1 c1) (vh_1 c2) (by decide))), ?_⟩
      intro s2 e5
      have k6 : sR σ s2 := by rw [e5]; exact k4.i _ (by omega)
      refine ⟨(by rw [e5, zI1, if_neg (by omega)]; exact (by rw [e3, zI1, if_neg (by omega)]; exact (vp_lh (vl_1 c1) (vh_1 c2) (by decide)))), ?_⟩
      intro s3 e7
      have k8 : sR σ s3 := by rw [e7]; exact k6.i _ (by omega)
      exact h _ k8
theorem sf_X4_skipRest {σ : zS} {K : zS → Prop} {QX : zS → Prop} (hv : sV σ) (h : ∀ s, sR σ s → K s) : zCT zZC zmX4_skipRest [.ref 1] σ (zQv K) QX := by
  refine rX4_skipRest ?_
  unfold PX4_skipRest_0
  have k0 : sR σ σ := ⟨sK.rf, hv⟩
  intro s1 e1
  have k2 : sR σ s1 := by rw [e1]; exact k0.i _ (by omega)
  exact h _ k2
theorem sf_X6_areMore {σ : zS} {K : Int32 → zS → Prop} {QX : zS → Prop} (hv : sV σ) (h : ∀ r s, (r = 0 ∨ r = 1) → sR σ s → K r s) : zCT zZC zmX6_areMore [.ref 3] σ (zQi K) QX := by
  refine rX6_areMore ?_
  unfold PX6_areMore_0
  have k0 : sR σ σ := ⟨sK.rf, hv⟩
  refine ⟨fun c1 => ?_, fun c1 => ?_⟩
  · refine ⟨fun c2 => ?_, fun c2 => ?_⟩
    · refine ⟨Or.inl rfl, ?_⟩
      exact h _ _ (Or.inl rfl) k0
    · refine ⟨Or.inr rfl, ?_⟩
      exact h _ _ (Or.inr rfl) k0
  · refine ⟨Or.inl rfl, ?_⟩
    exact h _ _ (Or.inl rfl) k0
theorem sf_X6_isRow {σ : zS} {a1 : Int32} {K : Int32 → zS → Prop} {QX : zS → Prop} (hv : sV σ) (h : ∀ r s, (r = 0 ∨ r = 1) → sR σ s → K r s) : zCT zZC zmX6_isRow [.int a1] σ (zQi K) QX := by
  refine rX6_isRow ?_
  unfold PX6_isRow_0
  have k0 : sR σ σ := ⟨sK.rf, hv⟩
  refine ⟨fun c1 => ?_, fun c1 => ?_⟩
  · refine ⟨Or.inl rfl, ?_⟩
    exact h _ _ (Or.inl rfl) k0
  · refine ⟨fun c2 => ?_, fun c2 => ?_⟩
    · refine ⟨Or.inl rfl, ?_⟩
      exact h _ _ (Or.inl rfl) k0
    · refine ⟨fun c3 => ?_, fun c3 => ?_⟩
      · refine ⟨Or.inl rfl, ?_⟩
        exact h _ _ (Or.inl rfl) k0
      · refine ⟨Or.inr rfl, ?_⟩
        exact h _ _ (Or.inr rfl) k0
theorem sf_X7_addLocals {σ : zS} {a1 : Int32} {a2 : Int32} {K : zS → Prop} {QX : zS → Prop} (hv : sV σ) (h : ∀ s, sR σ s → K s) : zCT zZC zmX7_addLocals [.ref 7, .int a1, .int a2] σ (zQv K) QX := by
  refine rX7_addLocals (fun m x1 x2 x3 s => sR σ s ∧ 0 ≤ x3.toInt ∧ m = (2147483648 - x3.toInt).toNat) ?_ ?_
  · rintro m x1 x2 x3 τ ⟨k0, hx, rfl⟩
    unfold PX7_addLocals_2
    refine ⟨fun c1 => ?_, fun c1 => ?_⟩
    · exact h _ k0
    · refine ⟨fun c2 => ?_, fun c2 => ?_⟩
      · exact h _ k0
      · refine ⟨(vp_lh k0.2.2.2.1 (vh_1 c2) (by decide)), ?_⟩
        intro s1 e3
        have k4 : sR σ s1 := by rw [e3]; exact k0.i _ (by omega)
        intro s2 e5
        have k6 : sR σ s2 := by rw [e5]; exact k4.v _ (by omega) (vp_up k4.2.2.2.1 (by rw [e3, zI1, if_neg (by omega)]; exact c2) (by decide))
        exact ⟨_, (inc_1 c1 hx).2, k6, (inc_1 c1 hx).1, rfl⟩
  · unfold PX7_addLocals_0
    have k0 : sR σ σ := ⟨sK.rf, hv⟩
    exact ⟨_, trivial, k0, by decide, rfl⟩
theorem sf_X7_leavesLong {σ : zS} {a1 : Int32} {K : Int32 → zS → Prop} {QX : zS → Prop} (hv : sV σ) (h : ∀ r s, (r = 0 ∨ r = 1) → sR σ s → K r s) : zCT zZC zmX7_leavesLong [.int a1] σ (zQi K) QX := by
  refine rX7_leavesLong ?_
  unfold PX7_leavesLong_0
  have k0 : sR σ σ := ⟨sK.rf, hv⟩
  refine ⟨fun c1 => ?_, fun c1 => ?_⟩
  · refine ⟨fun c2 => ?_, fun c2 => ?_⟩
    · refine ⟨Or.inr rfl, ?_⟩
      exact h _ _ (Or.inr rfl) k0
    · refine ⟨fun c3 => ?_, fun c3 => ?_⟩
      · refine ⟨Or.inr rfl, ?_⟩
        exact h _ _ (Or.inr rfl) k0
      · refine ⟨fun c4 => ?_, fun c4 => ?_⟩
        · refine ⟨Or.inl rfl, ?_⟩
          exact h _ _ (Or.inl rfl) k0
        · refine ⟨Or.inr rfl, ?_⟩
          exact h _ _ (Or.inr rfl) k0
  · refine ⟨fun c5 => ?_, fun c5 => ?_⟩
    · refine ⟨Or.inr rfl, ?_⟩
      exact h _ _ (Or.inr rfl) k0
    · refine ⟨fun c6 => ?_, fun c6 => ?_⟩
      · refine ⟨Or.inr rfl, ?_⟩
        exact h _ _ (Or.inr rfl) k0
      · refine ⟨fun c7 => ?_, fun c7 => ?_⟩
        · refine ⟨Or.inr rfl, ?_⟩
          exact h _ _ (Or.inr rfl) k0
        · refine ⟨fun c8 => ?_, fun c8 => ?_⟩
          · refine ⟨Or.inl rfl, ?_⟩
            exact h _ _ (Or.inl rfl) k0
          · refine ⟨Or.inr rfl, ?_⟩
            exact h _ _ (Or.inr rfl) k0
theorem sf_X7_takesLong {σ : zS} {a1 : Int32} {K : Int32 → zS → Prop} {QX : zS → Prop} (hv : sV σ) (h : ∀ r s, (r = 0 ∨ r = 1) → sR σ s → K r s) : zCT zZC zmX7_takesLong [.int a1] σ (zQi K) QX := by
  refine rX7_takesLong ?_
  unfold PX7_takesLong_0
  have k0 : sR σ σ := ⟨sK.rf, hv⟩
  refine ⟨fun c1 => ?_, fun c1 => ?_⟩
  · refine ⟨fun c2 => ?_, fun c2 => ?_⟩
    · refine ⟨fun c3 => ?_, fun c3 => ?_⟩
      · refine ⟨Or.inr rfl, ?_⟩
        exact h _ _ (Or.inr rfl) k0
      · refine ⟨fun c4 => ?_, fun c4 => ?_⟩
        · refine ⟨Or.inl rfl, ?_⟩
          exact h _ _ (Or.inl rfl) k0
        · refine ⟨Or.inr rfl, ?_⟩
          exact h _ _ (Or.inr rfl) k0
    · refine ⟨fun c5 => ?_, fun c5 => ?_⟩
      · refine ⟨Or.inr rfl, ?_⟩
        exact h _ _ (Or.inr rfl) k0
      · refine ⟨fun c6 => ?_, fun c6 => ?_⟩
        · refine ⟨Or.inr rfl, ?_⟩
          exact h _ _ (Or.inr rfl) k0
        · refine ⟨fun c7 => ?_, fun c7 => ?_⟩
          · refine ⟨Or.inl rfl, ?_⟩
            exact h _ _ (Or.inl rfl) k0
          · refine ⟨Or.inr rfl, ?_⟩
            exact h _ _ (Or.inr rfl) k0
  · refine ⟨fun c8 => ?_, fun c8 => ?_⟩
    · refine ⟨Or.inr rfl, ?_⟩
      exact h _ _ (Or.inr rfl) k0
    · refine ⟨fun c9 => ?_, fun c9 => ?_⟩
      · refine ⟨fun c10 => ?_, fun c10 => ?_⟩
        · refine ⟨Or.inr rfl, ?_⟩
          exact h _ _ (Or.inr rfl) k0
        · refine ⟨fun c11 => ?_, fun c11 => ?_⟩
          · refine ⟨Or.inl rfl, ?_⟩
            exact h _ _ (Or.inl rfl) k0
          · refine ⟨Or.inr rfl, ?_⟩
            exact h _ _ (Or.inr rfl) k0
      · refine ⟨fun c12 => ?_, fun c12 => ?_⟩
        · refine ⟨Or.inr rfl, ?_⟩
          exact h _ _ (Or.inr rfl) k0
        · refine ⟨fun c13 => ?_, fun c13 => ?_⟩
          · refine ⟨Or.inr rfl, ?_⟩
            exact h _ _ (Or.inr rfl) k0
          · refine ⟨fun c14 => ?_, fun c14 => ?_⟩
            · refine ⟨Or.inl rfl, ?_⟩
              exact h _ _ (Or.inl rfl) k0
            · refine ⟨Or.inr rfl, ?_⟩
              exact h _ _ (Or.inr rfl) k0
theorem sf_X7_takesTwo {σ : zS} {a1 : Int32} {K : Int32 → zS → Prop} {QX : zS → Prop} (hv : sV σ) (h : ∀ r s, (r = 0 ∨ r = 1) → sR σ s → K r s) : zCT zZC zmX7_takesTwo [.int a1] σ (zQi K) QX := by
  refine rX7_takesTwo ?_
  unfold PX7_takesTwo_0
  have k0 : sR σ σ := ⟨sK.rf, hv⟩
  refine ⟨fun c1 => ?_, fun c1 => ?_⟩
  · unfold PX7_takesTwo_12
    refine ⟨fun c3 => ?_, fun c3 => ?_⟩
    · unfold PX7_takesTwo_24
      refine ⟨fun c5 => ?_, fun c5 => ?_⟩
      · unfold PX7_takesTwo_36
        refine ⟨fun c7 => ?_, fun c7 => ?_⟩
        · refine ⟨Or.inl rfl, ?_⟩
          exact h _ _ (Or.inl rfl) k0
        · refine ⟨fun c8 => ?_, fun c8 => ?_⟩
          · refine ⟨Or.inl rfl, ?_⟩
            exact h _ _ (Or.inl rfl) k0
          · refine ⟨Or.inr rfl, ?_⟩
            exact h _ _ (Or.inr rfl) k0
      · refine ⟨fun c9 => ?_, fun c9 => ?_⟩
        · refine ⟨Or.inr rfl, ?_⟩
          exact h _ _ (Or.inr rfl) k0
        · unfold PX7_takesTwo_36
          refine ⟨fun c11 => ?_, fun c11 => ?_⟩
          · refine ⟨Or.inl rfl, ?_⟩
            exact h _ _ (Or.inl rfl) k0
          · refine ⟨fun c12 => ?_, fun c12 => ?_⟩
            · refine ⟨Or.inl rfl, ?_⟩
              exact h _ _ (Or.inl rfl) k0
            · refine ⟨Or.inr rfl, ?_⟩
              exact h _ _ (Or.inr rfl) k0
    · refine ⟨fun c13 => ?_, fun c13 => ?_⟩
      · refine ⟨Or.inr rfl, ?_⟩
        exact h _ _ (Or.inr rfl) k0
      · unfold PX7_takesTwo_24
        refine ⟨fun c15 => ?_, fun c15 => ?_⟩
        · unfold PX7_takesTwo_36
          refine ⟨fun c17 => ?_, fun c17 => ?_⟩
          · refine ⟨Or.inl rfl, ?_⟩
            exact h _ _ (Or.inl rfl) k0
          · refine ⟨fun c18 => ?_, fun c18 => ?_⟩
            · refine ⟨Or.inl rfl, ?_⟩
              exact h _ _ (Or.inl rfl) k0
            · refine ⟨Or.inr rfl, ?_⟩
              exact h _ _ (Or.inr rfl) k0
        · refine ⟨fun c19 => ?_, fun c19 => ?_⟩
          · refine ⟨Or.inr rfl, ?_⟩
            exact h _ _ (Or.inr rfl) k0
          · unfold PX7_takesTwo_36
            refine ⟨fun c21 => ?_, fun c21 => ?_⟩
            · refine ⟨Or.inl rfl, ?_⟩
              exact h _ _ (Or.inl rfl) k0
            · refine ⟨fun c22 => ?_, fun c22 => ?_⟩
              · refine ⟨Or.inl rfl, ?_⟩
                exact h _ _ (Or.inl rfl) k0
              · refine ⟨Or.inr rfl, ?_⟩
                exact h _ _ (Or.inr rfl) k0
  · refine ⟨fun c23 => ?_, fun c23 => ?_⟩
    · refine ⟨Or.inr rfl, ?_⟩
      exact h _ _ (Or.inr rfl) k0
    · unfold PX7_takesTwo_12
      refine ⟨fun c25 => ?_, fun c25 => ?_⟩
      · unfold PX7_takesTwo_24
        refine ⟨fun c27 => ?_, fun c27 => ?_⟩
        · unfold PX7_takesTwo_36
          refine ⟨fun c29 => ?_, fun c29 => ?_⟩
          · refine ⟨Or.inl rfl, ?_⟩
            exact h _ _ (Or.inl rfl) k0
          · refine ⟨fun c30 => ?_, fun c30 => ?_⟩
            · refine ⟨Or.inl rfl, ?_⟩
              exact h _ _ (Or.inl rfl) k0
            · refine ⟨Or.inr rfl, ?_⟩
              exact h _ _ (Or.inr rfl) k0
        · refine ⟨fun c31 => ?_, fun c31 => ?_⟩
          · refine ⟨Or.inr rfl, ?_⟩
            exact h _ _ (Or.inr rfl) k0
          · unfold PX7_takesTwo_36
            refine ⟨fun c33 => ?_, fun c33 => ?_⟩
            · refine ⟨Or.inl rfl, ?_⟩
              exact h _ _ (Or.inl rfl) k0
            · refine ⟨fun c34 => ?_, fun c34 => ?_⟩
              · refine ⟨Or.inl rfl, ?_⟩
                exact h _ _ (Or.inl rfl) k0
              · refine ⟨Or.inr rfl, ?_⟩
                exact h _ _ (Or.inr rfl) k0
      · refine ⟨fun c35 => ?_, fun c35 => ?_⟩
        · refine ⟨Or.inr rfl, ?_⟩
          exact h _ _ (Or.inr rfl) k0
        · unfold PX7_takesTwo_24
          refine ⟨fun c37 => ?_, fun c37 => ?_⟩
          · unfold PX7_takesTwo_36
            refine ⟨fun c39 => ?_, fun c39 => ?_⟩
            · refine ⟨Or.inl rfl, ?_⟩
              exact h _ _ (Or.inl rfl) k0
            · refine ⟨fun c40 => ?_, fun c40 => ?_⟩
              · refine ⟨Or.inl rfl, ?_⟩
                exact h _ _ (Or.inl rfl) k0
              · refine ⟨Or.inr rfl, ?_⟩
                exact h _ _ (Or.inr rfl) k0
          · refine ⟨fun c41 => ?_, fun c41 => ?_⟩
            · refine ⟨Or.inr rfl, ?_⟩
              exact h _ _ (Or.inr rfl) k0
            · unfold PX7_takesTwo_36
              refine ⟨fun c43 => ?_, fun c43 => ?_⟩
              · refine ⟨Or.inl rfl, ?_⟩
                exact h _ _ (Or.inl rfl) k0
              · refine ⟨fun c44 => ?_, fun c44 => ?_⟩
                · refine ⟨Or.inl rfl, ?_⟩
                  exact h _ _ (Or.inl rfl) k0
                · refine ⟨Or.inr rfl, ?_⟩
                  exact h _ _ (Or.inr rfl) k0
theorem sf_X1_lookWhereItStands {σ : zS} {K : zS → Prop} {QX : zS → Prop} (hv : sV σ) (h : ∀ s, sR σ s → K s) : zCT zZC zmX1_lookWhereItStands [.ref 4] σ (zQv K) QX := by
  refine rX1_lookWhereItStands ?_
  unfold PX1_lookWhereItStands_0
  have k0 : sR σ σ := ⟨sK.rf, hv⟩
  refine ⟨fun c1 => ?_, fun c1 => ?_⟩
  · refine ⟨fun c2 => ?_, fun c2 => ?_⟩
    · exact h _ k0
    · refine sf_X4_fail k0.2 (fun s1 k30 => ?_)
      have k3 := k0.trans k30
      exact h _ k3
  · refine ⟨fun c4 => ?_, fun c4 => ?_⟩
    · refine sf_X3_openedBy k0.2 (fun r3 s2 k50 => ?_)
      have k5 := k0.trans k50
      refine ⟨fun c6 => ?_, fun c6 => ?_⟩
      · exact h _ k5
      · refine sf_X4_fail k5.2 (fun s4 k70 => ?_)
        have k7 := k5.trans k70
        exact h _ k7
    · refine ⟨fun c8 => ?_, fun c8 => ?_⟩
      · refine ⟨fun c9 => ?_, fun c9 => ?_⟩
        · exact h _ k0
        · refine sf_X4_fail k0.2 (fun s5 k100 => ?_)
          have k10 := k0.trans k100
          exact h _ k10
      · exact h _ k0
theorem sf_X2_isUnchangedImport {σ : zS} {a1 : Int64} {K : Int32 → zS → Prop} {QX : zS → Prop} (hv : sV σ) (h : ∀ r s, (r = 0 ∨ r = 1) → sR σ s → K r s) : zCT zZC zmX2_isUnchangedImport [.ref 2, .long a1] σ (zQi K) QX := by
  refine rX2_isUnchangedImport ?_
  unfold PX2_isUnchangedImport_0
  have k0 : sR σ σ := ⟨sK.rf, hv⟩
  refine ⟨fun c1 => ?_, fun c1 => ?_⟩
  · refine ⟨Or.inl rfl, ?_⟩
    exact h _ _ (Or.inl rfl) k0
  · refine ⟨fun c2 => ?_, fun c2 => ?_⟩
    · refine ⟨Or.inl rfl, ?_⟩
      exact h _ _ (Or.inl rfl) k0
    · refine sf_X2_changesGlobal k0.2 (fun r2 s1 b4 k30 => ?_)
      have k3 := k0.trans k30
      refine ⟨fun c5 => ?_, fun c5 => ?_⟩
      · refine ⟨Or.inr rfl, ?_⟩
        exact h _ _ (Or.inr rfl) k3
      · refine ⟨Or.inl rfl, ?_⟩
        exact h _ _ (Or.inl rfl) k3
theorem sf_X3_begin {σ : zS} {a1 : Int32} {K : zS → Prop} {QX : zS → Prop} (hv : sV σ) (h : ∀ s, sR σ s → K s) : zCT zZC zmX3_begin [.ref 5, .int a1] σ (zQv K) QX := by
  refine rX3_begin ?_
  unfold PX3_begin_0
  have k0 : sR σ σ := ⟨sK.rf, hv⟩
  intro s1 e1
  have k2 : sR σ s1 := by rw [e1]; exact k0.d _ (by decide)
  intro s2 e3
  have k4 : sR σ s2 := by rw [e3]; exact k2.i _ (by omega)
  refine sf_X3_open k4.2 (fun s3 k50 => ?_)
  have k5 := k4.trans k50
  exact h _ k5
theorem sf_X4_blockType {σ : zS} {K : Int32 → zS → Prop} {QX : zS → Prop} (hv : sV σ) (h : ∀ r s, sR σ s → K r s) : zCT zZC zmX4_blockType [.ref 1] σ (zQi K) QX := by
  refine rX4_blockType ?_
  unfold PX4_blockType_0
  have k0 : sR σ σ := ⟨sK.rf, hv⟩
  refine sf_X4_octet k0.2 (fun r2 s1 k10 => ?_)
  have k1 := k0.trans k10
  refine ⟨fun c2 => ?_, fun c2 => ?_⟩
  · exact h _ _ k1
  · refine ⟨fun c3 => ?_, fun c3 => ?_⟩
    · exact h _ _ k1
    · refine ⟨fun c4 => ?_, fun c4 => ?_⟩
      · exact h _ _ k1
      · refine sf_X4_fail k1.2 (fun s3 k50 => ?_)
        have k5 := k1.trans k50
        exact h _ _ k5
theorem sf_X4_leave {σ : zS} {a1 : Int32} {K : zS → Prop} {QX : zS → Prop} (hv : sV σ) (h : ∀ s, sR σ s → K s) : zCT zZC zmX4_leave [.ref 1, .int a1] σ (zQv K) QX := by
  refine rX4_leave ?_
  unfold PX4_leave_0
  have k0 : sR σ σ := ⟨sK.rf, hv⟩
  refine ⟨fun c1 => ?_, fun c1 => ?_⟩
  · intro s1 e2
    have k3 : sR σ s1 := by rw [e2]; exact k0.i _ (by omega)
    exact h _ k3
  · refine sf_X4_fail k0.2 (fun s2 k40 => ?_)
    have k4 := k0.trans k40
    intro s3 e5
    have k6 : sR σ s3 := by rw [e5]; exact k4.i _ (by omega)
    exact h _ k6
theorem sf_X4_number {σ : zS} {K : Int64 → zS → Prop} {QX : zS → Prop} (hv : sV σ) (h : ∀ r s, (0 ≤ r.toInt) → sR σ s → K r s) : zCT zZC zmX4_number [.ref 1] σ (zQl K) QX := by
  refine rX4_number (fun m x1 x2 x4 s => sR σ s ∧ 0 ≤ x4.toInt ∧ m = (2147483648 - x4.toInt).toNat ∧ 0 ≤ x2.toInt) ?_ ?_
  · rintro m x1 x2 x4 τ ⟨k0, hx, rfl, hz⟩
    unfold PX4_number_10
    refine ⟨fun c1 => ?_, fun c1 => ?_⟩
    · refine ⟨fun c2 => ?_, fun c2 => ?_⟩
      · exact h _ _ hz k0
      · exact h _ _ (by decide) k0
    · refine ⟨fun c3 => ?_, fun c3 => ?_⟩
      · refine sf_X4_octet k0.2 (fun r2 s1 k40 => ?_)
        have k4 := k0.trans k40
        refine ⟨fun c5 => ?_, fun c5 => ?_⟩
        · refine ⟨fun c6 => ?_, fun c6 => ?_⟩
          · refine ⟨fun c7 => ?_, fun c7 => ?_⟩
            · exact ⟨_, (inc_1 c1 hx).2, k4, (inc_1 c1 hx).1, rfl, nn_or hz hx c1⟩
            · refine ⟨fun c8 => ?_, fun c8 => ?_⟩
              · exact h _ _ (nn_or hz hx c1) k4
              · exact h _ _ (by decide) k4
          · refine sf_X4_fail k4.2 (fun s3 k90 => ?_)
            have k9 := k4.trans k90
            refine ⟨fun c10 => ?_, fun c10 => ?_⟩
            · exact ⟨_, (inc_1 c1 hx).2, k9, (inc_1 c1 hx).1, rfl, nn_or hz hx c1⟩
            · refine ⟨fun c11 => ?_, fun c11 => ?_⟩
              · exact h _ _ (nn_or hz hx c1) k9
              · exact h _ _ (by decide) k9
        · refine ⟨fun c12 => ?_, fun c12 => ?_⟩
          · exact ⟨_, (inc_1 c1 hx).2, k4, (inc_1 c1 hx).1, rfl, nn_or hz hx c1⟩
          · refine ⟨fun c13 => ?_, fun c13 => ?_⟩
            · exact h _ _ (nn_or hz hx c1) k4
            · exact h _ _ (by decide) k4
      · refine ⟨fun c14 => ?_, fun c14 => ?_⟩
        · exact h _ _ hz k0
        · exact h _ _ (by decide) k0
  · unfold PX4_number_0
    have k0 : sR σ σ := ⟨sK.rf, hv⟩
    exact ⟨_, trivial, k0, by decide, rfl, by decide⟩
theorem sf_X4_octetWithin {σ : zS} {a1 : Int32} {a2 : Int32} {K : Int32 → zS → Prop} {QX : zS → Prop} (hv : sV σ) (h : ∀ r s, sR σ s → K r s) : zCT zZC zmX4_octetWithin [.ref 1, .int a1, .int a2] σ (zQi K) QX := by
  refine rX4_octetWithin ?_
  unfold PX4_octetWithin_0
  have k0 : sR σ σ := ⟨sK.rf, hv⟩
  refine sf_X4_octet k0.2 (fun r2 s1 k10 => ?_)
  have k1 := k0.trans k10
  refine ⟨fun c2 => ?_, fun c2 => ?_⟩
  · refine sf_X4_fail k1.2 (fun s3 k30 => ?_)
    have k3 := k1.trans k30
    exact h _ _ k3
  · refine ⟨fun c4 => ?_, fun c4 => ?_⟩
    · exact h _ _ k1
    · refine sf_X4_fail k1.2 (fun s4 k50 => ?_)
      have k5 := k1.trans k50
      exact h _ _ k5
theorem sf_X4_skipSigned {σ : zS} {a1 : Int32} {a2 : Int32} {K : zS → Prop} {QX : zS → Prop} (hv : sV σ) (ha : a1.toInt ≤ 1000) (h : ∀ s, sR σ s → K s) : zCT zZC zmX4_skipSigned [.ref 1, .int a1, .int a2] σ (zQv K) QX := by
  refine rX4_skipSigned (fun m x1 x2 x3 x4 s => sR σ s ∧ 0 ≤ x4.toInt ∧ m = (2147483648 - x4.toInt).toNat ∧ x1.toInt ≤ 1000) ?_ ?_
  · rintro m x1 x2 x3 x4 τ ⟨k0, hx, rfl, hz⟩
    unfold PX4_skipSigned_8
    refine ⟨fun c1 => ?_, fun c1 => ?_⟩
    · exact h _ k0
    · refine ⟨fun c2 => ?_, fun c2 => ?_⟩
      · refine sf_X4_octet k0.2 (fun r2 s1 k30 => ?_)
        have k3 := k0.trans k30
        refine ⟨fun c4 => ?_, fun c4 => ?_⟩
        · refine ⟨fun c5 => ?_, fun c5 => ?_⟩
          · refine ⟨fun c6 => ?_, fun c6 => ?_⟩
            · exact ⟨_, (inc_2 c1 hx hz).2, k3, (inc_2 c1 hx hz).1, rfl, hz⟩
            · exact h _ k3
          · refine ⟨fun c7 => ?_, fun c7 => ?_⟩
            · refine sf_X4_fail k3.2 (fun s3 k80 => ?_)
              have k8 := k3.trans k80
              refine ⟨fun c9 => ?_, fun c9 => ?_⟩
              · exact ⟨_, (inc_2 c1 hx hz).2, k8, (inc_2 c1 hx hz).1, rfl, hz⟩
              · exact h _ k8
            · refine ⟨fun c10 => ?_, fun c10 => ?_⟩
              · refine ⟨fun c11 => ?_, fun c11 => ?_⟩
                · exact ⟨_, (inc_2 c1 hx hz).2, k3, (inc_2 c1 hx hz).1, rfl, hz⟩
                · exact h _ k3
              · refine sf_X4_fail k3.2 (fun s4 k120 => ?_)
                have k12 := k3.trans k120
                refine ⟨fun c13 => ?_, fun c13 => ?_⟩
                · exact ⟨_, (inc_2 c1 hx hz).2, k12, (inc_2 c1 hx hz).1, rfl, hz⟩
                · exact h _ k12
        · refine ⟨fun c14 => ?_, fun c14 => ?_⟩
          · exact ⟨_, (inc_2 c1 hx hz).2, k3, (inc_2 c1 hx hz).1, rfl, hz⟩
          · exact h _ k3
      · exact h _ k0
  · unfold PX4_skipSigned_0
    have k0 : sR σ σ := ⟨sK.rf, hv⟩
    exact ⟨_, trivial, k0, by decide, rfl, ha⟩
theorem sf_X6_addMemory {σ : zS} {a1 : Int32} {K : zS → Prop} {QX : zS → Prop} (hv : sV σ) (h : ∀ s, sR σ s → K s) : zCT zZC zmX6_addMemory [.ref 3, .int a1] σ (zQv K) QX := by
  refine rX6_addMemory ?_
  unfold PX6_addMemory_0
  have k0 : sR σ σ := ⟨sK.rf, hv⟩
  intro s1 e1
  have k2 : sR σ s1 := by rw [e1]; exact k0.i _ (by omega)
  refine ⟨fun c3 => ?_, fun c3 => ?_⟩
  · exact h _ k2
  · refine sf_X2_noteWrong k2.2 (fun s2 k40 => ?_)
    have k4 := k2.trans k40
    exact h _ k4
theorem sf_X6_addTable {σ : zS} {a1 : Int32} {K : zS → Prop} {QX : zS → Prop} (hv : sV σ) (h : ∀ s, sR σ s → K s) : zCT zZC zmX6_addTable [.ref 3, .int a1] σ (zQv K) QX := by
  refine rX6_addTable ?_
  unfold PX6_addTable_0
  have k0 : sR σ σ := ⟨sK.rf, hv⟩
  intro s1 e1
  have k2 : sR σ s1 := by rw [e1]; exact k0.i _ (by omega)
  refine ⟨fun c3 => ?_, fun c3 => ?_⟩
  · exact h _ k2
  · refine sf_X2_noteWrong k2.2 (fun s2 k40 => ?_)
    have k4 := k2.trans k40
    exact h _ k4
theorem sf_X6_fit {σ : zS} {a1 : Int32} {K : zS → Prop} {QX : zS → Prop} (hv : sV σ) (h : ∀ s, sR σ s → K s) : zCT zZC zmX6_fit [.ref 3, .int a1] σ (zQv K) QX := by
  refine rX6_fit ?_
  unfold PX6_fit_0
  have k0 : sR σ σ := ⟨sK.rf, hv⟩
  refine ⟨fun c1 => ?_, fun c1 => ?_⟩
  · refine ⟨(by unfold vp_in; decide), ?_⟩
    refine ⟨(by unfold vp_in; decide), ?_⟩
    refine ⟨fun c2 => ?_, fun c2 => ?_⟩
    · refine ⟨fun c3 => ?_, fun c3 => ?_⟩
      · refine ⟨fun c4 => ?_, fun c4 => ?_⟩
        · exact h _ k0
        · refine ⟨(by unfold vp_in; decide), ?_⟩
          refine ⟨fun c5 => ?_, fun c5 => ?_⟩
          · exact h _ k0
          · refine sf_X4_fail k0.2 (fun s1 k60 => ?_)
            have k6 := k0.trans k60
            exact h _ k6
      · exact h _ k0
    · refine sf_X4_fail k0.2 (fun s2 k70 => ?_)
      have k7 := k0.trans k70
      refine ⟨fun c8 => ?_, fun c8 => ?_⟩
      · refine ⟨fun c9 => ?_, fun c9 => ?_⟩
        · exact h _ k7
        · refine ⟨(by unfold vp_in; decide), ?_⟩
          refine ⟨fun c10 => ?_, fun c10 => ?_⟩
          · exact h _ k7
          · refine sf_X4_fail k7.2 (fun s3 k110 => ?_)
            have k11 := k7.trans k110
            exact h _ k11
      · exact h _ k7
  · refine ⟨fun c12 => ?_, fun c12 => ?_⟩
    · refine ⟨fun c13 => ?_, fun c13 => ?_⟩
      · exact h _ k0
      · refine ⟨(by unfold vp_in; decide), ?_⟩
        refine ⟨fun c14 => ?_, fun c14 => ?_⟩
        · exact h _ k0
        · refine sf_X4_fail k0.2 (fun s4 k150 => ?_)
          have k15 := k0.trans k150
          exact h _ k15
    · exact h _ k0
theorem sf_X6_isExported {σ : zS} {a1 : Int32} {a2 : Int32} {K : Int32 → zS → Prop} {QX : zS → Prop} (hv : sV σ) (h : ∀ r s, (r = 0 ∨ r = 1) → sR σ s → K r s) : zCT zZC zmX6_isExported [.ref 3, .int a1, .int a2] σ (zQi K) QX := by
  refine rX6_isExported (fun m x1 x2 x3 s => sR σ s ∧ 0 ≤ x3.toInt ∧ m = (2147483648 - x3.toInt).toNat) ?_ ?_
  · rintro m x1 x2 x3 τ ⟨k0, hx, rfl⟩
    unfold PX6_isExported_2
    refine ⟨(by unfold vp_in; decide), ?_⟩
    refine ⟨fun c1 => ?_, fun c1 => ?_⟩
    · refine ⟨Or.inl rfl, ?_⟩
      exact h _ _ (Or.inl rfl) k0
    · refine ⟨fun c2 => ?_, fun c2 => ?_⟩
      · refine ⟨Or.inl rfl, ?_⟩
        exact h _ _ (Or.inl rfl) k0
      · refine ⟨(vp_lh hx (vh_1 c2) (by decide)), ?_⟩
        refine ⟨fun c3 => ?_, fun c3 => ?_⟩
        · refine ⟨(vp_lh hx (vh_1 c2) (by decide)), ?_⟩
          refine sf_X4_sameBytes k0.2 (fun r2 s1 b5 k40 => ?_)
          have k4 := k0.trans k40
          refine ⟨fun c6 => ?_, fun c6 => ?_⟩
          · exact ⟨_, (inc_1 c2 hx).2, k4, (inc_1 c2 hx).1, rfl⟩
          · refine ⟨Or.inr rfl, ?_⟩
            exact h _ _ (Or.inr rfl) k4
        · exact ⟨_, (inc_1 c2 hx).2, k0, (inc_1 c2 hx).1, rfl⟩
  · unfold PX6_isExported_0
    have k0 : sR σ σ := ⟨sK.rf, hv⟩
    exact ⟨_, trivial, k0, by decide, rfl⟩
theorem sf_X6_refuseBeyond {σ : zS} {a1 : Int32} {a2 : Int32} {K : zS → Prop} {QX : zS → Prop} (hv : sV σ) (h : ∀ s, sR σ s → K s) : zCT zZC zmX6_refuseBeyond [.ref 3, .int a1, .int a2] σ (zQv K) QX := by
  refine rX6_refuseBeyond ?_
  unfold PX6_refuseBeyond_0
  have k0 : sR σ σ := ⟨sK.rf, hv⟩
  refine ⟨fun c1 => ?_, fun c1 => ?_⟩
  · exact h _ k0
  · refine sf_X4_fail k0.2 (fun s1 k20 => ?_)
    have k2 := k0.trans k20
    exact h _ k2
theorem sf_X7_followAccess {σ : zS} {a1 : Int32} {a2 : Int64} {K : zS → Prop} {QX : zS → Prop} (hv : sV σ) (h : ∀ s, sR σ s → K s) : zCT zZC zmX7_followAccess [.ref 7, .int a1, .long a2] σ (zQv K) QX := by
  refine rX7_followAccess ?_
  have j96 : ∀ (x1 : Int32) (τ : zS), sR σ τ → PX7_followAccess_96 (zQv K) QX x1 τ := by
    intro x1 τ k0
    unfold PX7_followAccess_96
    refine ⟨fun c1 => ?_, fun c1 => ?_⟩
    · exact absurd c1 (by decide)
    · refine ⟨fun c2 => ?_, fun c2 => ?_⟩
      · refine sf_X3_take k0.2 (fun r9 s8 k30 => ?_)
        have k3 := k0.trans k30
        refine sf_X3_leave k3.2 (fun s10 k40 => ?_)
        have k4 := k3.trans k40
        exact h _ k4
      · refine sf_X3_take k0.2 (fun r12 s11 k50 => ?_)
        have k5 := k0.trans k50
        refine sf_X3_take k5.2 (fun r14 s13 k60 => ?_)
        have k6 := k5.trans k60
        exact h _ k6
  have j84 : ∀ (x1 : Int32) (τ : zS), sR σ τ → PX7_followAccess_84 (zQv K) QX x1 τ := by
    intro x1 τ k0
    unfold PX7_followAccess_84
    refine ⟨fun c7 => ?_, fun c7 => ?_⟩
    · exact j96 x1 _ k0
    · refine ⟨fun c8 => ?_, fun c8 => ?_⟩
      · refine ⟨fun c9 => ?_, fun c9 => ?_⟩
        · refine ⟨fun c10 => ?_, fun c10 => ?_⟩
          · refine sf_X3_take k0.2 (fun r2 s1 k110 => ?_)
            have k11 := k0.trans k110
            refine sf_X3_leave k11.2 (fun s3 k120 => ?_)
            have k12 := k11.trans k120
            exact h _ k12
          · refine sf_X3_take k0.2 (fun r5 s4 k130 => ?_)
            have k13 := k0.trans k130
            refine sf_X3_take k13.2 (fun r7 s6 k140 => ?_)
            have k14 := k13.trans k140
            exact h _ k14
        · exact absurd (by decide) c9
      · exact j96 x1 _ k0
  unfold PX7_followAccess_0
  have k0 : sR σ σ := ⟨sK.rf, hv⟩
  refine ⟨fun c15 => ?_, fun c15 => ?_⟩
  · refine sf_X3_demand k0.2 (fun s1 k160 => ?_)
    have k16 := k0.trans k160
    refine ⟨fun c17 => ?_, fun c17 => ?_⟩
    · refine sf_X3_demand k16.2 (fun s2 k180 => ?_)
      have k18 := k16.trans k180
      refine ⟨fun c19 => ?_, fun c19 => ?_⟩
      · exact j96 a1 _ k18
      · refine ⟨fun c20 => ?_, fun c20 => ?_⟩
        · exact j84 a1 _ k18
        · refine ⟨fun c21 => ?_, fun c21 => ?_⟩
          · exact j96 a1 _ k18
          · exact j84 a1 _ k18
    · refine ⟨fun c22 => ?_, fun c22 => ?_⟩
      · refine sf_X3_demand k16.2 (fun s3 k230 => ?_)
        have k23 := k16.trans k230
        refine ⟨fun c24 => ?_, fun c24 => ?_⟩
        · exact j96 a1 _ k23
        · refine ⟨fun c25 => ?_, fun c25 => ?_⟩
          · exact j84 a1 _ k23
          · refine ⟨fun c26 => ?_, fun c26 => ?_⟩
            · exact j96 a1 _ k23
            · exact j84 a1 _ k23
      · refine ⟨(vp_lh (vl_1 c17) (vh_1 c22) (by decide)), ?_⟩
        refine ⟨fun c27 => ?_, fun c27 => ?_⟩
        · refine sf_X3_demand k16.2 (fun s4 k280 => ?_)
          have k28 := k16.trans k280
          refine ⟨fun c29 => ?_, fun c29 => ?_⟩
          · exact j96 a1 _ k28
          · refine ⟨fun c30 => ?_, fun c30 => ?_⟩
            · exact j84 a1 _ k28
            · refine ⟨fun c31 => ?_, fun c31 => ?_⟩
              · exact j96 a1 _ k28
              · exact j84 a1 _ k28
        · refine sf_X3_demand k16.2 (fun s5 k320 => ?_)
          have k32 := k16.trans k320
          refine ⟨fun c33 => ?_, fun c33 => ?_⟩
          · exact j96 a1 _ k32
          · refine ⟨fun c34 => ?_, fun c34 => ?_⟩
            · exact j84 a1 _ k32
            · refine ⟨fun c35 => ?_, fun c35 => ?_⟩
              · exact j96 a1 _ k32
              · exact j84 a1 _ k32
  · refine sf_X3_demand k0.2 (fun s6 k360 => ?_)
    have k36 := k0.trans k360
    refine ⟨fun c37 => ?_, fun c37 => ?_⟩
    · refine sf_X3_demand k36.2 (fun s7 k380 => ?_)
      have k38 := k36.trans k380
      refine ⟨fun c39 => ?_, fun c39 => ?_⟩
      · exact j96 a1 _ k38
      · refine ⟨fun c40 => ?_, fun c40 => ?_⟩
        · exact j84 a1 _ k38
        · refine ⟨fun c41 => ?_, fun c41 => ?_⟩
          · exact j96 a1 _ k38
          · exact j84 a1 _ k38
    · refine ⟨fun c42 => ?_, fun c42 => ?_⟩
      · refine sf_X3_demand k36.2 (fun s8 k430 => ?_)
        have k43 := k36.trans k430
        refine ⟨fun c44 => ?_, fun c44 => ?_⟩
        · exact j96 a1 _ k43
        · refine ⟨fun c45 => ?_, fun c45 => ?_⟩
          · exact j84 a1 _ k43
          · refine ⟨fun c46 => ?_, fun c46 => ?_⟩
            · exact j96 a1 _ k43
            · exact j84 a1 _ k43
      · refine ⟨(vp_lh (vl_1 c37) (vh_1 c42) (by decide)), ?_⟩
        refine ⟨fun c47 => ?_, fun c47 => ?_⟩
        · refine sf_X3_demand k36.2 (fun s9 k480 => ?_)
          have k48 := k36.trans k480
          refine ⟨fun c49 => ?_, fun c49 => ?_⟩
          · exact j96 a1 _ k48
          · refine ⟨fun c50 => ?_, fun c50 => ?_⟩
            · exact j84 a1 _ k48
            · refine ⟨fun c51 => ?_, fun c51 => ?_⟩
              · exact j96 a1 _ k48
              · exact j84 a1 _ k48
        · refine sf_X3_demand k36.2 (fun s10 k520 => ?_)
          have k52 := k36.trans k520
          refine ⟨fun c53 => ?_, fun c53 => ?_⟩
          · exact j96 a1 _ k52
          · refine ⟨fun c54 => ?_, fun c54 => ?_⟩
            · exact j84 a1 _ k52
            · refine ⟨fun c55 => ?_, fun c55 => ?_⟩
              · exact j96 a1 _ k52
              · exact j84 a1 _ k52
theorem sf_X7_followCall {σ : zS} {a1 : Int32} {a2 : Int64} {K : zS → Prop} {QX : zS → Prop} (hv : sV σ) (h : ∀ s, sR σ s → K s) : zCT zZC zmX7_followCall [.ref 7, .int a1, .long a2] σ (zQv K) QX := by
  refine rX7_followCall (fun m x4 x5 s => sR σ s ∧ m = (x5.toInt + 1).toNat) ?_ ?_
  · rintro m x4 x5 τ ⟨k0, rfl⟩
    unfold PX7_followCall_107
    refine ⟨fun c1 => ?_, fun c1 => ?_⟩
    · refine sf_X2_resultOf k0.2 (fun r2 s1 k20 => ?_)
      have k2 := k0.trans k20
      refine sf_X3_leave k2.2 (fun s3 k30 => ?_)
      have k3 := k2.trans k30
      exact h _ k3
    · refine sf_X2_parameter k0.2 (fun r5 s4 k40 => ?_)
      have k4 := k0.trans k40
      refine sf_X3_take k4.2 (fun r7 s6 k50 => ?_)
      have k5 := k4.trans k50
      exact ⟨_, dec_1 c1, k5, rfl⟩
  · unfold PX7_followCall_0
    have k0 : sR σ σ := ⟨sK.rf, hv⟩
    refine ⟨fun c6 => ?_, fun c6 => ?_⟩
    · refine sf_X2_signatureOf k0.2 (fun r2 s1 k70 => ?_)
      have k7 := k0.trans k70
      unfold PX7_followCall_77
      refine ⟨fun c9 => ?_, fun c9 => ?_⟩
      · refine sf_X3_demand k7.2 (fun s1_8 k100 => ?_)
        have k10 := k7.trans k100
        refine sf_X2_parameterCount k10.2 (fun r3_8 s2_8 k110 => ?_)
        have k11 := k10.trans k110
        exact ⟨_, trivial, k11, rfl⟩
      · refine sf_X3_demand k7.2 (fun s4_8 k120 => ?_)
        have k12 := k7.trans k120
        refine sf_X2_parameterCount k12.2 (fun r6_8 s5_8 k130 => ?_)
        have k13 := k12.trans k130
        exact ⟨_, trivial, k13, rfl⟩
    · refine ⟨fun c14 => ?_, fun c14 => ?_⟩
      · refine sf_X3_demand k0.2 (fun s3 k150 => ?_)
        have k15 := k0.trans k150
        refine sf_X3_take k15.2 (fun r5 s4 k160 => ?_)
        have k16 := k15.trans k160
        refine ⟨(by unfold vp_in; decide), ?_⟩
        refine ⟨fun c17 => ?_, fun c17 => ?_⟩
        · unfold PX7_followCall_77
          refine ⟨fun c19 => ?_, fun c19 => ?_⟩
          · refine sf_X3_demand k16.2 (fun s1_18 k200 => ?_)
            have k20 := k16.trans k200
            refine sf_X2_parameterCount k20.2 (fun r3_18 s2_18 k210 => ?_)
            have k21 := k20.trans k210
            exact ⟨_, trivial, k21, rfl⟩
          · exact absurd (by decide) c19
        · unfold PX7_followCall_77
          refine ⟨fun c23 => ?_, fun c23 => ?_⟩
          · refine sf_X3_demand k16.2 (fun s1_22 k240 => ?_)
            have k24 := k16.trans k240
            refine sf_X2_parameterCount k24.2 (fun r3_22 s2_22 k250 => ?_)
            have k25 := k24.trans k250
            exact ⟨_, trivial, k25, rfl⟩
          · refine sf_X3_demand k16.2 (fun s4_22 k260 => ?_)
            have k26 := k16.trans k260
            refine sf_X2_parameterCount k26.2 (fun r6_22 s5_22 k270 => ?_)
            have k27 := k26.trans k270
            exact ⟨_, trivial, k27, rfl⟩
      · refine sf_X3_demand k0.2 (fun s6 k280 => ?_)
        have k28 := k0.trans k280
        refine sf_X3_take k28.2 (fun r8 s7 k290 => ?_)
        have k29 := k28.trans k290
        refine ⟨(by unfold vp_in; decide), ?_⟩
        refine ⟨fun c30 => ?_, fun c30 => ?_⟩
        · unfold PX7_followCall_77
          refine ⟨fun c32 => ?_, fun c32 => ?_⟩
          · refine sf_X3_demand k29.2 (fun s1_31 k330 => ?_)
            have k33 := k29.trans k330
            refine sf_X2_parameterCount k33.2 (fun r3_31 s2_31 k340 => ?_)
            have k34 := k33.trans k340
            exact ⟨_, trivial, k34, rfl⟩
          · exact absurd (by decide) c32
        · unfold PX7_followCall_77
          refine ⟨fun c36 => ?_, fun c36 => ?_⟩
          · refine sf_X3_demand k29.2 (fun s1_35 k370 => ?_)
            have k37 := k29.trans k370
            refine sf_X2_parameterCount k37.2 (fun r3_35 s2_35 k380 => ?_)
            have k38 := k37.trans k380
            exact ⟨_, trivial, k38, rfl⟩
          · refine sf_X3_demand k29.2 (fun s4_35 k390 => ?_)
            have k39 := k29.trans k390
            refine sf_X2_parameterCount k39.2 (fun r6_35 s5_35 k400 => ?_)
            have k40 := k39.trans k400
            exact ⟨_, trivial, k40, rfl⟩
theorem sf_X7_followChoice {σ : zS} {a1 : Int32} {K : zS → Prop} {QX : zS → Prop} (hv : sV σ) (h : ∀ s, sR σ s → K s) : zCT zZC zmX7_followChoice [.ref 7, .int a1] σ (zQv K) QX := by
  refine rX7_followChoice ?_
  unfold PX7_followChoice_0
  have k0 : sR σ σ := ⟨sK.rf, hv⟩
  refine ⟨fun c1 => ?_, fun c1 => ?_⟩
  · refine sf_X3_take k0.2 (fun r2 s1 k20 => ?_)
    have k2 := k0.trans k20
    exact h _ k2
  · refine sf_X3_take k0.2 (fun r4 s3 k30 => ?_)
    have k3 := k0.trans k30
    refine sf_X3_take k3.2 (fun r6 s5 k40 => ?_)
    have k4 := k3.trans k40
    refine sf_X3_take k4.2 (fun r8 s7 k50 => ?_)
    have k5 := k4.trans k50
    refine ⟨fun c6 => ?_, fun c6 => ?_⟩
    · refine sf_X3_demand k5.2 (fun s9 k70 => ?_)
      have k7 := k5.trans k70
      refine ⟨fun c8 => ?_, fun c8 => ?_⟩
      · refine sf_X3_leave k7.2 (fun s10 k90 => ?_)
        have k9 := k7.trans k90
        exact h _ k9
      · refine sf_X3_leave k7.2 (fun s11 k100 => ?_)
        have k10 := k7.trans k100
        exact h _ k10
    · refine ⟨fun c11 => ?_, fun c11 => ?_⟩
      · refine sf_X3_demand k5.2 (fun s12 k120 => ?_)
        have k12 := k5.trans k120
        refine ⟨fun c13 => ?_, fun c13 => ?_⟩
        · refine sf_X3_leave k12.2 (fun s13 k140 => ?_)
          have k14 := k12.trans k140
          exact h _ k14
        · refine sf_X3_leave k12.2 (fun s14 k150 => ?_)
          have k15 := k12.trans k150
          exact h _ k15
      · refine ⟨fun c16 => ?_, fun c16 => ?_⟩
        · refine sf_X3_demand k5.2 (fun s15 k170 => ?_)
          have k17 := k5.trans k170
          refine ⟨fun c18 => ?_, fun c18 => ?_⟩
          · refine sf_X3_leave k17.2 (fun s16 k190 => ?_)
            have k19 := k17.trans k190
            exact h _ k19
          · refine sf_X3_leave k17.2 (fun s17 k200 => ?_)
            have k20 := k17.trans k200
            exact h _ k20
        · refine sf_X3_demand k5.2 (fun s18 k210 => ?_)
          have k21 := k5.trans k210
          refine ⟨fun c22 => ?_, fun c22 => ?_⟩
          · refine sf_X3_leave k21.2 (fun s19 k230 => ?_)
            have k23 := k21.trans k230
            exact h _ k23
          · refine sf_X3_leave k21.2 (fun s20 k240 => ?_)
            have k24 := k21.trans k240
            exact h _ k24
theorem sf_X7_followFrame {σ : zS} {a1 : Int32} {K : zS → Prop} {QX : zS → Prop} (hv : sV σ) (h : ∀ s, sR σ s → K s) : zCT zZC zmX7_followFrame [.ref 7, .int a1] σ (zQv K) QX := by
  refine rX7_followFrame ?_
  unfold PX7_followFrame_0
  have k0 : sR σ σ := ⟨sK.rf, hv⟩
  refine ⟨fun c1 => ?_, fun c1 => ?_⟩
  · refine sf_X3_forget k0.2 (fun s1 k20 => ?_)
    have k2 := k0.trans k20
    exact h _ k2
  · refine ⟨fun c3 => ?_, fun c3 => ?_⟩
    · refine sf_X3_take k0.2 (fun r3 s2 k40 => ?_)
      have k4 := k0.trans k40
      exact h _ k4
    · refine ⟨fun c5 => ?_, fun c5 => ?_⟩
      · unfold PX7_followFrame_43
        refine ⟨fun c7 => ?_, fun c7 => ?_⟩
        · refine sf_X3_openedBy k0.2 (fun r2_6 s1_6 k80 => ?_)
          have k8 := k0.trans k80
          refine ⟨fun c9 => ?_, fun c9 => ?_⟩
          · refine ⟨fun c10 => ?_, fun c10 => ?_⟩
            · exact absurd c10 (by decide)
            · refine sf_X3_result k8.2 (fun r12_6 s11_6 k110 => ?_)
              have k11 := k8.trans k110
              refine ⟨fun c12 => ?_, fun c12 => ?_⟩
              · refine sf_X3_demand k11.2 (fun s13_6 k130 => ?_)
                have k13 := k11.trans k130
                refine sf_X3_result k13.2 (fun r15_6 s14_6 k140 => ?_)
                have k14 := k13.trans k140
                refine sf_X3_take k14.2 (fun r17_6 s16_6 k150 => ?_)
                have k15 := k14.trans k150
                refine sf_X3_isEmpty k15.2 (fun r19_6 s18_6 b17 k160 => ?_)
                have k16 := k15.trans k160
                refine sf_X3_demand k16.2 (fun s20_6 k180 => ?_)
                have k18 := k16.trans k180
                exact h _ k18
              · refine sf_X3_demand k11.2 (fun s21_6 k190 => ?_)
                have k19 := k11.trans k190
                refine sf_X3_result k19.2 (fun r23_6 s22_6 k200 => ?_)
                have k20 := k19.trans k200
                refine sf_X3_take k20.2 (fun r25_6 s24_6 k210 => ?_)
                have k21 := k20.trans k210
                refine sf_X3_isEmpty k21.2 (fun r27_6 s26_6 b23 k220 => ?_)
                have k22 := k21.trans k220
                refine sf_X3_demand k22.2 (fun s28_6 k240 => ?_)
                have k24 := k22.trans k240
                exact h _ k24
          · unfold PX7_followFrame_64
            refine ⟨fun c26 => ?_, fun c26 => ?_⟩
            · refine sf_X3_demand k8.2 (fun s1_25 k270 => ?_)
              have k27 := k8.trans k270
              refine sf_X3_result k27.2 (fun r3_25 s2_25 k280 => ?_)
              have k28 := k27.trans k280
              refine sf_X3_take k28.2 (fun r5_25 s4_25 k290 => ?_)
              have k29 := k28.trans k290
              refine sf_X3_isEmpty k29.2 (fun r7_25 s6_25 b31 k300 => ?_)
              have k30 := k29.trans k300
              refine sf_X3_demand k30.2 (fun s8_25 k320 => ?_)
              have k32 := k30.trans k320
              exact h _ k32
            · exact absurd (by decide) c26
        · unfold PX7_followFrame_64
          refine ⟨fun c34 => ?_, fun c34 => ?_⟩
          · refine sf_X3_demand k0.2 (fun s1_33 k350 => ?_)
            have k35 := k0.trans k350
            refine sf_X3_result k35.2 (fun r3_33 s2_33 k360 => ?_)
            have k36 := k35.trans k360
            refine sf_X3_take k36.2 (fun r5_33 s4_33 k370 => ?_)
            have k37 := k36.trans k370
            refine sf_X3_isEmpty k37.2 (fun r7_33 s6_33 b39 k380 => ?_)
            have k38 := k37.trans k380
            refine sf_X3_demand k38.2 (fun s8_33 k400 => ?_)
            have k40 := k38.trans k400
            exact h _ k40
          · exact absurd (by decide) c34
      · refine ⟨fun c41 => ?_, fun c41 => ?_⟩
        · unfold PX7_followFrame_43
          refine ⟨fun c43 => ?_, fun c43 => ?_⟩
          · refine sf_X3_openedBy k0.2 (fun r2_42 s1_42 k440 => ?_)
            have k44 := k0.trans k440
            refine ⟨fun c45 => ?_, fun c45 => ?_⟩
            · refine ⟨fun c46 => ?_, fun c46 => ?_⟩
              · exact absurd c46 (by decide)
              · refine sf_X3_result k44.2 (fun r12_42 s11_42 k470 => ?_)
                have k47 := k44.trans k470
                refine ⟨fun c48 => ?_, fun c48 => ?_⟩
                · refine sf_X3_demand k47.2 (fun s13_42 k490 => ?_)
                  have k49 := k47.trans k490
                  refine sf_X3_result k49.2 (fun r15_42 s14_42 k500 => ?_)
                  have k50 := k49.trans k500
                  refine sf_X3_take k50.2 (fun r17_42 s16_42 k510 => ?_)
                  have k51 := k50.trans k510
                  refine sf_X3_isEmpty k51.2 (fun r19_42 s18_42 b53 k520 => ?_)
                  have k52 := k51.trans k520
                  refine sf_X3_demand k52.2 (fun s20_42 k540 => ?_)
                  have k54 := k52.trans k540
                  exact h _ k54
                · refine sf_X3_demand k47.2 (fun s21_42 k550 => ?_)
                  have k55 := k47.trans k550
                  refine sf_X3_result k55.2 (fun r23_42 s22_42 k560 => ?_)
                  have k56 := k55.trans k560
                  refine sf_X3_take k56.2 (fun r25_42 s24_42 k570 => ?_)
                  have k57 := k56.trans k570
                  refine sf_X3_isEmpty k57.2 (fun r27_42 s26_42 b59 k580 => ?_)
                  have k58 := k57.trans k580
                  refine sf_X3_demand k58.2 (fun s28_42 k600 => ?_)
                  have k60 := k58.trans k600
                  exact h _ k60
            · unfold PX7_followFrame_64
              refine ⟨fun c62 => ?_, fun c62 => ?_⟩
              · refine sf_X3_demand k44.2 (fun s1_61 k630 => ?_)
                have k63 := k44.trans k630
                refine sf_X3_result k63.2 (fun r3_61 s2_61 k640 => ?_)
                have k64 := k63.trans k640
                refine sf_X3_take k64.2 (fun r5_61 s4_61 k650 => ?_)
                have k65 := k64.trans k650
                refine sf_X3_isEmpty k65.2 (fun r7_61 s6_61 b67 k660 => ?_)
                have k66 := k65.trans k660
                refine sf_X3_demand k66.2 (fun s8_61 k680 => ?_)
                have k68 := k66.trans k680
                exact h _ k68
              · exact absurd (by decide) c62
          · unfold PX7_followFrame_64
            refine ⟨fun c70 => ?_, fun c70 => ?_⟩
            · refine sf_X3_demand k0.2 (fun s1_69 k710 => ?_)
              have k71 := k0.trans k710
              refine sf_X3_result k71.2 (fun r3_69 s2_69 k720 => ?_)
              have k72 := k71.trans k720
              refine sf_X3_take k72.2 (fun r5_69 s4_69 k730 => ?_)
              have k73 := k72.trans k730
              refine sf_X3_isEmpty k73.2 (fun r7_69 s6_69 b75 k740 => ?_)
              have k74 := k73.trans k740
              refine sf_X3_demand k74.2 (fun s8_69 k760 => ?_)
              have k76 := k74.trans k760
              exact h _ k76
            · exact absurd (by decide) c70
        · exact h _ k0
theorem sf_X7_followGlobal {σ : zS} {a1 : Int32} {a2 : Int64} {K : zS → Prop} {QX : zS → Prop} (hv : sV σ) (h : ∀ s, sR σ s → K s) : zCT zZC zmX7_followGlobal [.ref 7, .int a1, .long a2] σ (zQv K) QX := by
  refine rX7_followGlobal ?_
  unfold PX7_followGlobal_0
  have k0 : sR σ σ := ⟨sK.rf, hv⟩
  refine ⟨fun c1 => ?_, fun c1 => ?_⟩
  · refine sf_X3_demand k0.2 (fun s1 k20 => ?_)
    have k2 := k0.trans k20
    exact h _ k2
  · refine ⟨fun c3 => ?_, fun c3 => ?_⟩
    · refine sf_X2_typeOfGlobal k0.2 (fun r3 s2 k40 => ?_)
      have k4 := k0.trans k40
      refine ⟨fun c5 => ?_, fun c5 => ?_⟩
      · refine sf_X3_leave k4.2 (fun s4 k60 => ?_)
        have k6 := k4.trans k60
        exact h _ k6
      · refine sf_X2_changesGlobal k4.2 (fun r6 s5 b8 k70 => ?_)
        have k7 := k4.trans k70
        refine sf_X3_demand k7.2 (fun s7 k90 => ?_)
        have k9 := k7.trans k90
        refine sf_X3_take k9.2 (fun r9 s8 k100 => ?_)
        have k10 := k9.trans k100
        exact h _ k10
    · refine sf_X3_demand k0.2 (fun s10 k110 => ?_)
      have k11 := k0.trans k110
      exact h _ k11
theorem sf_X7_followLeap {σ : zS} {a1 : Int32} {a2 : Int64} {K : zS → Prop} {QX : zS → Prop} (hv : sV σ) (h : ∀ s, sR σ s → K s) : zCT zZC zmX7_followLeap [.ref 7, .int a1, .long a2] σ (zQv K) QX := by
  refine rX7_followLeap ?_
  unfold PX7_followLeap_0
  have k0 : sR σ σ := ⟨sK.rf, hv⟩
  refine ⟨fun c1 => ?_, fun c1 => ?_⟩
  · refine sf_X3_bodyResult k0.2 (fun r2 s1 k20 => ?_)
    have k2 := k0.trans k20
    refine sf_X3_take k2.2 (fun r4 s3 k30 => ?_)
    have k3 := k2.trans k30
    refine sf_X3_forget k3.2 (fun s5 k40 => ?_)
    have k4 := k3.trans k40
    exact h _ k4
  · refine sf_X3_labelType k0.2 (fun r7 s6 k50 => ?_)
    have k5 := k0.trans k50
    refine ⟨fun c6 => ?_, fun c6 => ?_⟩
    · refine sf_X3_take k5.2 (fun r9 s8 k70 => ?_)
      have k7 := k5.trans k70
      refine sf_X3_take k7.2 (fun r11 s10 k80 => ?_)
      have k8 := k7.trans k80
      refine sf_X3_leave k8.2 (fun s12 k90 => ?_)
      have k9 := k8.trans k90
      exact h _ k9
    · refine sf_X3_take k5.2 (fun r14 s13 k100 => ?_)
      have k10 := k5.trans k100
      refine sf_X3_forget k10.2 (fun s15 k110 => ?_)
      have k11 := k10.trans k110
      exact h _ k11
theorem sf_X7_followLocal {σ : zS} {a1 : Int32} {a2 : Int64} {K : zS → Prop} {QX : zS → Prop} (hv : sV σ) (h : ∀ s, sR σ s → K s) : zCT zZC zmX7_followLocal [.ref 7, .int a1, .long a2] σ (zQv K) QX := by
  refine rX7_followLocal ?_
  unfold PX7_followLocal_0
  have k0 : sR σ σ := ⟨sK.rf, hv⟩
  refine ⟨fun c1 => ?_, fun c1 => ?_⟩
  · refine sf_X3_demand k0.2 (fun s1 k20 => ?_)
    have k2 := k0.trans k20
    exact h _ k2
  · refine ⟨fun c3 => ?_, fun c3 => ?_⟩
    · refine sf_X3_demand k0.2 (fun s2 k40 => ?_)
      have k4 := k0.trans k40
      exact h _ k4
    · refine ⟨fun c5 => ?_, fun c5 => ?_⟩
      · refine ⟨(vp_i64 c1 c5 (by decide)), ?_⟩
        refine ⟨fun c6 => ?_, fun c6 => ?_⟩
        · refine ⟨fun c7 => ?_, fun c7 => ?_⟩
          · exact h _ k0
          · refine sf_X3_leave k0.2 (fun s3 k80 => ?_)
            have k8 := k0.trans k80
            exact h _ k8
        · refine sf_X3_take k0.2 (fun r5 s4 k90 => ?_)
          have k9 := k0.trans k90
          refine ⟨fun c10 => ?_, fun c10 => ?_⟩
          · exact h _ k9
          · refine sf_X3_leave k9.2 (fun s6 k110 => ?_)
            have k11 := k9.trans k110
            exact h _ k11
      · refine sf_X3_demand k0.2 (fun s7 k120 => ?_)
        have k12 := k0.trans k120
        exact h _ k12
theorem sf_X7_followLonger {σ : zS} {a1 : Int32} {a2 : Int64} {K : zS → Prop} {QX : zS → Prop} (hv : sV σ) (h : ∀ s, sR σ s → K s) : zCT zZC zmX7_followLonger [.ref 7, .int a1, .long a2] σ (zQv K) QX := by
  refine rX7_followLonger ?_
  have j159 : ∀ (x1 : Int32) (τ : zS), sR σ τ → PX7_followLonger_159 (zQv K) QX x1 τ := by
    intro x1 τ k0
    unfold PX7_followLonger_159
    refine ⟨fun c1 => ?_, fun c1 => ?_⟩
    · exact h _ k0
    · refine ⟨fun c2 => ?_, fun c2 => ?_⟩
      · exact h _ k0
      · refine sf_X3_take k0.2 (fun r2 s1 k30 => ?_)
        have k3 := k0.trans k30
        refine sf_X3_take k3.2 (fun r4 s3 k40 => ?_)
        have k4 := k3.trans k40
        refine sf_X3_take k4.2 (fun r6 s5 k50 => ?_)
        have k5 := k4.trans k50
        exact h _ k5
  have j137 : ∀ (x1 : Int32) (τ : zS), sR σ τ → PX7_followLonger_137 (zQv K) QX x1 τ := by
    intro x1 τ k0
    unfold PX7_followLonger_137
    refine ⟨fun c6 => ?_, fun c6 => ?_⟩
    · refine sf_X3_demand k0.2 (fun s1 k70 => ?_)
      have k7 := k0.trans k70
      exact j159 x1 _ k7
    · refine sf_X3_demand k0.2 (fun s2 k80 => ?_)
      have k8 := k0.trans k80
      exact j159 x1 _ k8
  have j123 : ∀ (x1 : Int32) (τ : zS), sR σ τ → PX7_followLonger_123 (zQv K) QX x1 τ := by
    intro x1 τ k0
    unfold PX7_followLonger_123
    refine ⟨fun c9 => ?_, fun c9 => ?_⟩
    · exact j137 x1 _ k0
    · refine ⟨fun c10 => ?_, fun c10 => ?_⟩
      · exact j137 x1 _ k0
      · exact j159 x1 _ k0
  have j101 : ∀ (x1 : Int32) (τ : zS), sR σ τ → PX7_followLonger_101 (zQv K) QX x1 τ := by
    intro x1 τ k0
    unfold PX7_followLonger_101
    refine ⟨fun c11 => ?_, fun c11 => ?_⟩
    · refine sf_X3_demand k0.2 (fun s1 k120 => ?_)
      have k12 := k0.trans k120
      exact j123 x1 _ k12
    · refine sf_X3_demand k0.2 (fun s2 k130 => ?_)
      have k13 := k0.trans k130
      exact j123 x1 _ k13
  have j80 : ∀ (x1 : Int32) (τ : zS), sR σ τ → PX7_followLonger_80 (zQv K) QX x1 τ := by
    intro x1 τ k0
    unfold PX7_followLonger_80
    refine ⟨fun c14 => ?_, fun c14 => ?_⟩
    · exact j101 x1 _ k0
    · refine ⟨fun c15 => ?_, fun c15 => ?_⟩
      · exact j101 x1 _ k0
      · refine ⟨fun c16 => ?_, fun c16 => ?_⟩
        · exact j101 x1 _ k0
        · exact j123 x1 _ k0
  have j52 : ∀ (x1 : Int32) (x2 : Int64) (τ : zS), sR σ τ → PX7_followLonger_52 (zQv K) QX x1 x2 τ := by
    intro x1 x2 τ k0
    unfold PX7_followLonger_52
    refine ⟨(by unfold vp_in; decide), ?_⟩
    refine ⟨fun c17 => ?_, fun c17 => ?_⟩
    · refine sf_X3_demand k0.2 (fun s1 k180 => ?_)
      have k18 := k0.trans k180
      exact j80 x1 _ k18
    · refine sf_X3_demand k0.2 (fun s2 k190 => ?_)
      have k19 := k0.trans k190
      exact j80 x1 _ k19
  have j38 : ∀ (x1 : Int32) (x2 : Int64) (τ : zS), sR σ τ → PX7_followLonger_38 (zQv K) QX x1 x2 τ := by
    intro x1 x2 τ k0
    unfold PX7_followLonger_38
    refine ⟨fun c20 => ?_, fun c20 => ?_⟩
    · exact j52 x1 x2 _ k0
    · refine ⟨fun c21 => ?_, fun c21 => ?_⟩
      · exact j52 x1 x2 _ k0
      · exact j80 x1 _ k0
  have j14 : ∀ (x1 : Int32) (x2 : Int64) (τ : zS), sR σ τ → PX7_followLonger_14 (zQv K) QX x1 x2 τ := by
    intro x1 x2 τ k0
    unfold PX7_followLonger_14
    refine ⟨fun c22 => ?_, fun c22 => ?_⟩
    · refine sf_X3_demand k0.2 (fun s1 k230 => ?_)
      have k23 := k0.trans k230
      exact j38 x1 x2 _ k23
    · refine sf_X3_demand k0.2 (fun s2 k240 => ?_)
      have k24 := k0.trans k240
      exact j38 x1 x2 _ k24
  unfold PX7_followLonger_0
  have k0 : sR σ σ := ⟨sK.rf, hv⟩
  refine ⟨fun c25 => ?_, fun c25 => ?_⟩
  · exact j14 a1 a2 _ k0
  · refine ⟨fun c26 => ?_, fun c26 => ?_⟩
    · exact j14 a1 a2 _ k0
    · exact j38 a1 a2 _ k0
theorem sf_X7_followPlain {σ : zS} {a1 : Int32} {K : zS → Prop} {QX : zS → Prop} (hv : sV σ) (h : ∀ s, sR σ s → K s) : zCT zZC zmX7_followPlain [.ref 7, .int a1] σ (zQv K) QX := by
  refine rX7_followPlain ?_
  unfold PX7_followPlain_0
  have k0 : sR σ σ := ⟨sK.rf, hv⟩
  refine ⟨fun c1 => ?_, fun c1 => ?_⟩
  · refine sf_X3_leave k0.2 (fun s1 k20 => ?_)
    have k2 := k0.trans k20
    exact h _ k2
  · refine ⟨fun c3 => ?_, fun c3 => ?_⟩
    · refine sf_X3_leave k0.2 (fun s2 k40 => ?_)
      have k4 := k0.trans k40
      exact h _ k4
    · refine sf_X7_takesLong k0.2 (fun r4 s3 b6 k50 => ?_)
      have k5 := k0.trans k50
      refine ⟨fun c7 => ?_, fun c7 => ?_⟩
      · refine sf_X3_take k5.2 (fun r6 s5 k80 => ?_)
        have k8 := k5.trans k80
        refine sf_X7_takesTwo k8.2 (fun r8 s7 b10 k90 => ?_)
        have k9 := k8.trans k90
        refine ⟨fun c11 => ?_, fun c11 => ?_⟩
        · refine sf_X7_leavesLong k9.2 (fun r10 s9 b13 k120 => ?_)
          have k12 := k9.trans k120
          refine ⟨fun c14 => ?_, fun c14 => ?_⟩
          · refine sf_X3_leave k12.2 (fun s11 k150 => ?_)
            have k15 := k12.trans k150
            exact h _ k15
          · refine sf_X3_leave k12.2 (fun s12 k160 => ?_)
            have k16 := k12.trans k160
            exact h _ k16
        · refine sf_X3_take k9.2 (fun r14 s13 k170 => ?_)
          have k17 := k9.trans k170
          refine sf_X7_leavesLong k17.2 (fun r16 s15 b19 k180 => ?_)
          have k18 := k17.trans k180
          refine ⟨fun c20 => ?_, fun c20 => ?_⟩
          · refine sf_X3_leave k18.2 (fun s17 k210 => ?_)
            have k21 := k18.trans k210
            exact h _ k21
          · refine sf_X3_leave k18.2 (fun s18 k220 => ?_)
            have k22 := k18.trans k220
            exact h _ k22
      · refine sf_X3_take k5.2 (fun r20 s19 k230 => ?_)
        have k23 := k5.trans k230
        refine sf_X7_takesTwo k23.2 (fun r22 s21 b25 k240 => ?_)
        have k24 := k23.trans k240
        refine ⟨fun c26 => ?_, fun c26 => ?_⟩
        · refine sf_X7_leavesLong k24.2 (fun r24 s23 b28 k270 => ?_)
          have k27 := k24.trans k270
          refine ⟨fun c29 => ?_, fun c29 => ?_⟩
          · refine sf_X3_leave k27.2 (fun s25 k300 => ?_)
            have k30 := k27.trans k300
            exact h _ k30
          · refine sf_X3_leave k27.2 (fun s26 k310 => ?_)
            have k31 := k27.trans k310
            exact h _ k31
        · refine sf_X3_take k24.2 (fun r28 s27 k320 => ?_)
          have k32 := k24.trans k320
          refine sf_X7_leavesLong k32.2 (fun r30 s29 b34 k330 => ?_)
          have k33 := k32.trans k330
          refine ⟨fun c35 => ?_, fun c35 => ?_⟩
          · refine sf_X3_leave k33.2 (fun s31 k360 => ?_)
            have k36 := k33.trans k360
            exact h _ k36
          · refine sf_X3_leave k33.2 (fun s32 k370 => ?_)
            have k37 := k33.trans k370
            exact h _ k37
theorem sf_X7_followSize {σ : zS} {a1 : Int32} {K : zS → Prop} {QX : zS → Prop} (hv : sV σ) (h : ∀ s, sR σ s → K s) : zCT zZC zmX7_followSize [.ref 7, .int a1] σ (zQv K) QX := by
  refine rX7_followSize ?_
  unfold PX7_followSize_0
  have k0 : sR σ σ := ⟨sK.rf, hv⟩
  refine ⟨fun c1 => ?_, fun c1 => ?_⟩
  · refine sf_X3_demand k0.2 (fun s1 k20 => ?_)
    have k2 := k0.trans k20
    refine ⟨fun c3 => ?_, fun c3 => ?_⟩
    · refine sf_X3_take k2.2 (fun r3 s2 k40 => ?_)
      have k4 := k2.trans k40
      refine sf_X3_leave k4.2 (fun s4 k50 => ?_)
      have k5 := k4.trans k50
      exact h _ k5
    · refine sf_X3_leave k2.2 (fun s5 k60 => ?_)
      have k6 := k2.trans k60
      exact h _ k6
  · refine sf_X3_demand k0.2 (fun s6 k70 => ?_)
    have k7 := k0.trans k70
    refine ⟨fun c8 => ?_, fun c8 => ?_⟩
    · refine sf_X3_take k7.2 (fun r8 s7 k90 => ?_)
      have k9 := k7.trans k90
      refine sf_X3_leave k9.2 (fun s9 k100 => ?_)
      have k10 := k9.trans k100
      exact h _ k10
    · refine sf_X3_leave k7.2 (fun s10 k110 => ?_)
      have k11 := k7.trans k110
      exact h _ k11
theorem sf_X7_followTable {σ : zS} {K : zS → Prop} {QX : zS → Prop} (hv : sV σ) (h : ∀ s, sR σ s → K s) : zCT zZC zmX7_followTable [.ref 7, .ref 6] σ (zQv K) QX := by
  refine rX7_followTable (fun m x2 x3 s => sR σ s ∧ 0 ≤ x3.toInt ∧ m = (2147483648 - x3.toInt).toNat) ?_ ?_
  · rintro m x2 x3 τ ⟨k0, hx, rfl⟩
    unfold PX7_followTable_15
    refine ⟨fun c1 => ?_, fun c1 => ?_⟩
    · refine sf_X3_take k0.2 (fun r2 s1 k20 => ?_)
      have k2 := k0.trans k20
      refine sf_X3_forget k2.2 (fun s3 k30 => ?_)
      have k3 := k2.trans k30
      exact h _ k3
    · refine ⟨fun c4 => ?_, fun c4 => ?_⟩
      · refine sf_X3_take k0.2 (fun r5 s4 k50 => ?_)
        have k5 := k0.trans k50
        refine sf_X3_forget k5.2 (fun s6 k60 => ?_)
        have k6 := k5.trans k60
        exact h _ k6
      · refine ⟨(vp_lh hx (vh_1 c4) (by decide)), ?_⟩
        refine sf_X3_labelType k0.2 (fun r8 s7 k70 => ?_)
        have k7 := k0.trans k70
        refine ⟨fun c8 => ?_, fun c8 => ?_⟩
        · refine sf_X3_demand k7.2 (fun s9 k90 => ?_)
          have k9 := k7.trans k90
          exact ⟨_, (inc_1 c4 hx).2, k9, (inc_1 c4 hx).1, rfl⟩
        · refine ⟨fun c10 => ?_, fun c10 => ?_⟩
          · refine sf_X3_demand k7.2 (fun s10 k110 => ?_)
            have k11 := k7.trans k110
            exact ⟨_, (inc_1 c4 hx).2, k11, (inc_1 c4 hx).1, rfl⟩
          · refine sf_X3_demand k7.2 (fun s11 k120 => ?_)
            have k12 := k7.trans k120
            exact ⟨_, (inc_1 c4 hx).2, k12, (inc_1 c4 hx).1, rfl⟩
  · unfold PX7_followTable_0
    have k0 : sR σ σ := ⟨sK.rf, hv⟩
    refine sf_X3_take k0.2 (fun r2 s1 k130 => ?_)
    have k13 := k0.trans k130
    exact ⟨_, trivial, k13, by decide, rfl⟩
theorem sf_X1_turnFrames {σ : zS} {K : zS → Prop} {QX : zS → Prop} (hv : sV σ) (h : ∀ s, sR σ s → K s) : zCT zZC zmX1_turnFrames [.ref 4] σ (zQv K) QX := by
  refine rX1_turnFrames ?_
  unfold PX1_turnFrames_0
  have k0 : sR σ σ := ⟨sK.rf, hv⟩
  refine ⟨fun c1 => ?_, fun c1 => ?_⟩
  · refine sf_X3_open k0.2 (fun s1 k20 => ?_)
    have k2 := k0.trans k20
    exact h _ k2
  · refine ⟨fun c3 => ?_, fun c3 => ?_⟩
    · refine sf_X3_turnToElse k0.2 (fun s2 k40 => ?_)
      have k4 := k0.trans k40
      exact h _ k4
    · refine ⟨fun c5 => ?_, fun c5 => ?_⟩
      · refine sf_X3_close k0.2 (fun s3 k60 => ?_)
        have k6 := k0.trans k60
        exact h _ k6
      · exact h _ k0
theorem sf_X4_length {σ : zS} {K : Int32 → zS → Prop} {QX : zS → Prop} (hv : sV σ) (h : ∀ r s, sR σ s → K r s) : zCT zZC zmX4_length [.ref 1] σ (zQi K) QX := by
  refine rX4_length ?_
  unfold PX4_length_0
  have k0 : sR σ σ := ⟨sK.rf, hv⟩
  refine sf_X4_number k0.2 (fun r2 s1 p2 k10 => ?_)
  have k1 := k0.trans k10
  refine ⟨fun c3 => ?_, fun c3 => ?_⟩
  · refine ⟨fun c4 => ?_, fun c4 => ?_⟩
    · exact h _ _ k1
    · exact h _ _ k1
  · refine sf_X4_fail k1.2 (fun s3 k50 => ?_)
    have k5 := k1.trans k50
    refine ⟨fun c6 => ?_, fun c6 => ?_⟩
    · exact h _ _ k5
    · exact h _ _ k5
theorem sf_X4_name {σ : zS} {K : Int32 → zS → Prop} {QX : zS → Prop} (hv : sV σ) (h : ∀ r s, sR σ s → K r s) : zCT zZC zmX4_name [.ref 1] σ (zQi K) QX := by
  refine rX4_name (fun m x1 x4 x5 s => sR σ s ∧ 0 ≤ x5.toInt ∧ m = (2147483648 - x5.toInt).toNat) ?_ ?_
  · rintro m x1 x4 x5 τ ⟨k0, hx, rfl⟩
    unfold PX4_name_63
    refine ⟨fun c1 => ?_, fun c1 => ?_⟩
    · refine ⟨fun c2 => ?_, fun c2 => ?_⟩
      · exact h _ _ k0
      · exact h _ _ k0
    · refine ⟨fun c3 => ?_, fun c3 => ?_⟩
      · refine sf_X4_octet k0.2 (fun r2 s1 k40 => ?_)
        have k4 := k0.trans k40
        refine ⟨fun c5 => ?_, fun c5 => ?_⟩
        · refine sf_X4_fail k4.2 (fun s3 k60 => ?_)
          have k6 := k4.trans k60
          exact ⟨_, (inc_1 c1 hx).2, k6, (inc_1 c1 hx).1, rfl⟩
        · refine ⟨fun c7 => ?_, fun c7 => ?_⟩
          · exact ⟨_, (inc_1 c1 hx).2, k4, (inc_1 c1 hx).1, rfl⟩
          · refine sf_X4_fail k4.2 (fun s4 k80 => ?_)
            have k8 := k4.trans k80
            exact ⟨_, (inc_1 c1 hx).2, k8, (inc_1 c1 hx).1, rfl⟩
      · refine ⟨fun c9 => ?_, fun c9 => ?_⟩
        · exact h _ _ k0
        · exact h _ _ k0
  · unfold PX4_name_0
    have k0 : sR σ σ := ⟨sK.rf, hv⟩
    refine sf_X4_number k0.2 (fun r2 s1 p11 k100 => ?_)
    have k10 := k0.trans k100
    refine ⟨fun c12 => ?_, fun c12 => ?_⟩
    · refine sf_X4_fail k10.2 (fun s3 k130 => ?_)
      have k13 := k10.trans k130
      refine ⟨fun c14 => ?_, fun c14 => ?_⟩
      · exact ⟨_, trivial, k13, by decide, rfl⟩
      · exact ⟨_, trivial, k13, by decide, rfl⟩
    · refine ⟨fun c15 => ?_, fun c15 => ?_⟩
      · refine sf_X4_fail k10.2 (fun s4 k160 => ?_)
        have k16 := k10.trans k160
        refine ⟨fun c17 => ?_, fun c17 => ?_⟩
        · exact ⟨_, trivial, k16, by decide, rfl⟩
        · exact ⟨_, trivial, k16, by decide, rfl⟩
      · refine ⟨fun c18 => ?_, fun c18 => ?_⟩
        · refine ⟨fun c19 => ?_, fun c19 => ?_⟩
          · exact ⟨_, trivial, k10, by decide, rfl⟩
          · exact ⟨_, trivial, k10, by decide, rfl⟩
        · refine sf_X4_fail k10.2 (fun s5 k200 => ?_)
          have k20 := k10.trans k200
          refine ⟨fun c21 => ?_, fun c21 => ?_⟩
          · exact ⟨_, trivial, k20, by decide, rfl⟩
          · exact ⟨_, trivial, k20, by decide, rfl⟩
theorem sf_X4_rowLength {σ : zS} {K : Int32 → zS → Prop} {QX : zS → Prop} (hv : sV σ) (h : ∀ r s, (r.toInt ≤ 16000) → sR σ s → K r s) : zCT zZC zmX4_rowLength [.ref 1] σ (zQi K) QX := by
  refine rX4_rowLength ?_
  unfold PX4_rowLength_0
  have k0 : sR σ σ := ⟨sK.rf, hv⟩
  refine sf_X4_number k0.2 (fun r2 s1 p2 k10 => ?_)
  have k1 := k0.trans k10
  exact h _ _ (row_le p2) k1
theorem sf_X4_type {σ : zS} {K : Int32 → zS → Prop} {QX : zS → Prop} (hv : sV σ) (h : ∀ r s, sR σ s → K r s) : zCT zZC zmX4_type [.ref 1] σ (zQi K) QX := by
  refine rX4_type ?_
  unfold PX4_type_0
  have k0 : sR σ σ := ⟨sK.rf, hv⟩
  refine sf_X4_octetWithin k0.2 (fun r2 s1 k10 => ?_)
  have k1 := k0.trans k10
  exact h _ _ k1
theorem sf_X5_readArguments {σ : zS} {K : zS → Prop} {QX : zS → Prop} (hv : sV σ) (h : ∀ s, sR σ s → K s) : zCT zZC zmX5_readArguments [.ref 6, .ref 1] σ (zQv K) QX := by
  refine rX5_readArguments ?_
  unfold PX5_readArguments_0
  have k0 : sR σ σ := ⟨sK.rf, hv⟩
  refine ⟨fun c1 => ?_, fun c1 => ?_⟩
  · refine sf_X4_blockType k0.2 (fun r2 s1 k20 => ?_)
    have k2 := k0.trans k20
    intro s3 e3
    have k4 : sR σ s3 := by rw [e3]; exact k2.l _ (by omega)
    exact h _ k4
  · refine ⟨fun c5 => ?_, fun c5 => ?_⟩
    · refine sf_X4_number k0.2 (fun r5 s4 p7 k60 => ?_)
      have k6 := k0.trans k60
      intro s6 e8
      have k9 : sR σ s6 := by rw [e8]; exact k6.l _ (by omega)
      exact h _ k9
    · refine ⟨fun c10 => ?_, fun c10 => ?_⟩
      · refine sf_X4_number k0.2 (fun r8 s7 p12 k110 => ?_)
        have k11 := k0.trans k110
        intro s9 e13
        have k14 : sR σ s9 := by rw [e13]; exact k11.l _ (by omega)
        refine sf_X4_octetWithin k14.2 (fun r11 s10 k150 => ?_)
        have k15 := k14.trans k150
        exact h _ k15
      · refine ⟨fun c16 => ?_, fun c16 => ?_⟩
        · refine sf_X4_octetWithin k0.2 (fun r13 s12 k170 => ?_)
          have k17 := k0.trans k170
          exact h _ k17
        · refine ⟨fun c18 => ?_, fun c18 => ?_⟩
          · refine sf_X4_skipSigned k0.2 (by decide) (fun s14 k190 => ?_)
            have k19 := k0.trans k190
            exact h _ k19
          · refine ⟨fun c20 => ?_, fun c20 => ?_⟩
            · refine sf_X4_skipSigned k0.2 (by decide) (fun s15 k210 => ?_)
              have k21 := k0.trans k210
              exact h _ k21
            · refine ⟨fun c22 => ?_, fun c22 => ?_⟩
              · refine sf_X4_octetWithin k0.2 (fun r17 s16 k230 => ?_)
                have k23 := k0.trans k230
                refine sf_X4_octetWithin k23.2 (fun r19 s18 k240 => ?_)
                have k24 := k23.trans k240
                exact h _ k24
              · refine ⟨fun c25 => ?_, fun c25 => ?_⟩
                · exact h _ k0
                · refine ⟨fun c26 => ?_, fun c26 => ?_⟩
                  · exact h _ k0
                  · refine sf_X4_number k0.2 (fun r21 s20 p28 k270 => ?_)
                    have k27 := k0.trans k270
                    intro s22 e29
                    have k30 : sR σ s22 := by rw [e29]; exact k27.l _ (by omega)
                    refine sf_X4_number k30.2 (fun r24 s23 p32 k310 => ?_)
                    have k31 := k30.trans k310
                    exact h _ k31
theorem sf_X5_readNumber {σ : zS} {K : zS → Prop} {QX : zS → Prop} (hv : sV σ) (h : ∀ s, sR σ s → K s) : zCT zZC zmX5_readNumber [.ref 6, .ref 1] σ (zQv K) QX := by
  refine rX5_readNumber ?_
  unfold PX5_readNumber_0
  have k0 : sR σ σ := ⟨sK.rf, hv⟩
  intro s1 e1
  have k2 : sR σ s1 := by rw [e1]; exact k0.i _ (by omega)
  refine sf_X4_octet k2.2 (fun r3 s2 k30 => ?_)
  have k3 := k2.trans k30
  intro s4 e4
  have k5 : sR σ s4 := by rw [e4]; exact k3.i _ (by omega)
  refine ⟨fun c6 => ?_, fun c6 => ?_⟩
  · refine sf_X4_number k5.2 (fun r6 s5 p8 k70 => ?_)
    have k7 := k5.trans k70
    refine ⟨fun c9 => ?_, fun c9 => ?_⟩
    · refine sf_X4_fail k7.2 (fun s7 k100 => ?_)
      have k10 := k7.trans k100
      intro s8 e11
      have k12 : sR σ s8 := by rw [e11]; exact k10.i _ (by omega)
      exact h _ k12
    · refine ⟨fun c13 => ?_, fun c13 => ?_⟩
      · intro s9 e14
        have k15 : sR σ s9 := by rw [e14]; exact k7.i _ (by omega)
        exact h _ k15
      · refine sf_X4_fail k7.2 (fun s10 k160 => ?_)
        have k16 := k7.trans k160
        intro s11 e17
        have k18 : sR σ s11 := by rw [e17]; exact k16.i _ (by omega)
        exact h _ k18
  · refine sf_X5_isOfOneByte k5.2 (fun r13 s12 b20 k190 => ?_)
    have k19 := k5.trans k190
    refine ⟨fun c21 => ?_, fun c21 => ?_⟩
    · refine sf_X4_fail k19.2 (fun s14 k220 => ?_)
      have k22 := k19.trans k220
      exact h _ k22
    · exact h _ k19
theorem sf_X6_finish {σ : zS} {K : zS → Prop} {QX : zS → Prop} (hv : sV σ) (h : ∀ s, sR σ s → K s) : zCT zZC zmX6_finish [.ref 3] σ (zQv K) QX := by
  refine rX6_finish ?_
  unfold PX6_finish_0
  have k0 : sR σ σ := ⟨sK.rf, hv⟩
  refine sf_X6_fit k0.2 (fun s1 k10 => ?_)
  have k1 := k0.trans k10
  refine sf_X6_fit k1.2 (fun s2 k20 => ?_)
  have k2 := k1.trans k20
  exact h _ k2
theorem sf_X6_readConstant {σ : zS} {a1 : Int32} {a2 : Int32} {K : zS → Prop} {QX : zS → Prop} (hv : sV σ) (h : ∀ s, sR σ s → K s) : zCT zZC zmX6_readConstant [.ref 3, .int a1, .int a2] σ (zQv K) QX := by
  refine rX6_readConstant ?_
  unfold PX6_readConstant_0
  have k0 : sR σ σ := ⟨sK.rf, hv⟩
  refine sf_X4_octet k0.2 (fun r2 s1 k10 => ?_)
  have k1 := k0.trans k10
  refine ⟨fun c2 => ?_, fun c2 => ?_⟩
  · refine sf_X4_number k1.2 (fun r4 s3 p4 k30 => ?_)
    have k3 := k1.trans k30
    refine sf_X2_isUnchangedImport k3.2 (fun r6 s5 b6 k50 => ?_)
    have k5 := k3.trans k50
    refine ⟨fun c7 => ?_, fun c7 => ?_⟩
    · refine sf_X4_octetWithin k5.2 (fun r8 s7 k80 => ?_)
      have k8 := k5.trans k80
      refine ⟨fun c9 => ?_, fun c9 => ?_⟩
      · exact h _ k8
      · refine sf_X2_noteWrong k8.2 (fun s9 k100 => ?_)
        have k10 := k8.trans k100
        exact h _ k10
    · refine sf_X2_typeOfGlobal k5.2 (fun r11 s10 k110 => ?_)
      have k11 := k5.trans k110
      refine sf_X4_octetWithin k11.2 (fun r13 s12 k120 => ?_)
      have k12 := k11.trans k120
      refine ⟨fun c13 => ?_, fun c13 => ?_⟩
      · exact h _ k12
      · refine sf_X2_noteWrong k12.2 (fun s14 k140 => ?_)
        have k14 := k12.trans k140
        exact h _ k14
  · refine ⟨fun c15 => ?_, fun c15 => ?_⟩
    · refine sf_X4_skipSigned k1.2 (by decide) (fun s15 k160 => ?_)
      have k16 := k1.trans k160
      refine sf_X4_octetWithin k16.2 (fun r17 s16 k170 => ?_)
      have k17 := k16.trans k170
      refine ⟨fun c18 => ?_, fun c18 => ?_⟩
      · exact h _ k17
      · refine sf_X2_noteWrong k17.2 (fun s18 k190 => ?_)
        have k19 := k17.trans k190
        exact h _ k19
    · refine ⟨fun c20 => ?_, fun c20 => ?_⟩
      · refine sf_X4_skipSigned k1.2 (by decide) (fun s19 k210 => ?_)
        have k21 := k1.trans k210
        refine sf_X4_octetWithin k21.2 (fun r21 s20 k220 => ?_)
        have k22 := k21.trans k220
        refine ⟨fun c23 => ?_, fun c23 => ?_⟩
        · exact h _ k22
        · refine sf_X2_noteWrong k22.2 (fun s22 k240 => ?_)
          have k24 := k22.trans k240
          exact h _ k24
      · refine sf_X4_fail k1.2 (fun s23 k250 => ?_)
        have k25 := k1.trans k250
        refine sf_X4_octetWithin k25.2 (fun r25 s24 k260 => ?_)
        have k26 := k25.trans k260
        refine ⟨fun c27 => ?_, fun c27 => ?_⟩
        · exact h _ k26
        · refine sf_X2_noteWrong k26.2 (fun s26 k280 => ?_)
          have k28 := k26.trans k280
          exact h _ k28
theorem sf_X6_readLimits {σ : zS} {a1 : Int32} {a2 : Int32} {K : zS → Prop} {QX : zS → Prop} (hv : sV σ) (h : ∀ s, sR σ s → K s) : zCT zZC zmX6_readLimits [.ref 3, .int a1, .int a2] σ (zQv K) QX := by
  refine rX6_readLimits ?_
  unfold PX6_readLimits_0
  have k0 : sR σ σ := ⟨sK.rf, hv⟩
  refine sf_X4_octetWithin k0.2 (fun r2 s1 k10 => ?_)
  have k1 := k0.trans k10
  refine ⟨fun c2 => ?_, fun c2 => ?_⟩
  · refine sf_X4_number k1.2 (fun r4 s3 p4 k30 => ?_)
    have k3 := k1.trans k30
    refine ⟨fun c5 => ?_, fun c5 => ?_⟩
    · exact absurd c5 (by decide)
    · refine sf_X4_number k3.2 (fun r8 s7 p7 k60 => ?_)
      have k6 := k3.trans k60
      refine ⟨fun c8 => ?_, fun c8 => ?_⟩
      · refine sf_X2_noteWrong k6.2 (fun s9 k90 => ?_)
        have k9 := k6.trans k90
        exact h _ k9
      · refine ⟨fun c10 => ?_, fun c10 => ?_⟩
        · exact h _ k6
        · refine ⟨fun c11 => ?_, fun c11 => ?_⟩
          · exact h _ k6
          · refine sf_X2_noteWrong k6.2 (fun s10 k120 => ?_)
            have k12 := k6.trans k120
            exact h _ k12
  · refine sf_X4_number k1.2 (fun r12 s11 p14 k130 => ?_)
    have k13 := k1.trans k130
    refine ⟨fun c15 => ?_, fun c15 => ?_⟩
    · refine ⟨fun c16 => ?_, fun c16 => ?_⟩
      · refine sf_X2_noteWrong k13.2 (fun s13 k170 => ?_)
        have k17 := k13.trans k170
        exact h _ k17
      · refine ⟨fun c18 => ?_, fun c18 => ?_⟩
        · exact h _ k13
        · refine ⟨fun c19 => ?_, fun c19 => ?_⟩
          · exact h _ k13
          · refine sf_X2_noteWrong k13.2 (fun s14 k200 => ?_)
            have k20 := k13.trans k200
            exact h _ k20
    · exact absurd (by decide) c15
theorem sf_X6_readSectionNumber {σ : zS} {K : Int32 → zS → Prop} {QX : zS → Prop} (hv : sV σ) (h : ∀ r s, (0 ≤ r.toInt ∧ r.toInt < 13) → sR σ s → K r s) : zCT zZC zmX6_readSectionNumber [.ref 3] σ (zQi K) QX := by
  refine rX6_readSectionNumber ?_
  unfold PX6_readSectionNumber_0
  have k0 : sR σ σ := ⟨sK.rf, hv⟩
  refine sf_X4_octetWithin k0.2 (fun r2 s1 k10 => ?_)
  have k1 := k0.trans k10
  refine ⟨fun c2 => ?_, fun c2 => ?_⟩
  · exact h _ _ (by decide) k1
  · refine ⟨fun c3 => ?_, fun c3 => ?_⟩
    · refine ⟨(vp_lh (vl_3 c2) (vh_2 c3) (by decide)), ?_⟩
      refine ⟨fun c4 => ?_, fun c4 => ?_⟩
      · refine ⟨(vp_lh (vl_3 c2) (vh_2 c3) (by decide)), ?_⟩
        intro s3 e5
        have k6 : sR σ s3 := by rw [e5]; exact k1.i _ (by omega)
        exact h _ _ ⟨vl_3 c2, sec_lt c3⟩ k6
      · refine sf_X4_fail k1.2 (fun s4 k70 => ?_)
        have k7 := k1.trans k70
        refine ⟨(vp_lh (vl_3 c2) (vh_2 c3) (by decide)), ?_⟩
        intro s5 e8
        have k9 : sR σ s5 := by rw [e8]; exact k7.i _ (by omega)
        exact h _ _ ⟨vl_3 c2, sec_lt c3⟩ k9
    · exact h _ _ (by decide) k1
theorem sf_X6_readSignatureOfFunction {σ : zS} {a1 : Int32} {K : zS → Prop} {QX : zS → Prop} (hv : sV σ) (h : ∀ s, sR σ s → K s) : zCT zZC zmX6_readSignatureOfFunction [.ref 3, .int a1] σ (zQv K) QX := by
  refine rX6_readSignatureOfFunction ?_
  unfold PX6_readSignatureOfFunction_0
  have k0 : sR σ σ := ⟨sK.rf, hv⟩
  refine sf_X4_number k0.2 (fun r2 s1 p2 k10 => ?_)
  have k1 := k0.trans k10
  refine ⟨(by unfold vp_in; decide), ?_⟩
  refine ⟨fun c3 => ?_, fun c3 => ?_⟩
  · refine sf_X2_addFunction k1.2 (fun s3 k40 => ?_)
    have k4 := k1.trans k40
    exact h _ k4
  · refine sf_X2_noteWrong k1.2 (fun s4 k50 => ?_)
    have k5 := k1.trans k50
    refine sf_X2_addFunction k5.2 (fun s5 k60 => ?_)
    have k6 := k5.trans k60
    exact h _ k6
theorem sf_X6_readStart {σ : zS} {K : zS → Prop} {QX : zS → Prop} (hv : sV σ) (h : ∀ s, sR σ s → K s) : zCT zZC zmX6_readStart [.ref 3] σ (zQv K) QX := by
  refine rX6_readStart ?_
  unfold PX6_readStart_0
  have k0 : sR σ σ := ⟨sK.rf, hv⟩
  refine sf_X4_number k0.2 (fun r2 s1 p2 k10 => ?_)
  have k1 := k0.trans k10
  refine sf_X2_signatureOf k1.2 (fun r4 s3 k30 => ?_)
  have k3 := k1.trans k30
  refine ⟨fun c4 => ?_, fun c4 => ?_⟩
  · refine sf_X2_noteWrong k3.2 (fun s5 k50 => ?_)
    have k5 := k3.trans k50
    exact h _ k5
  · refine sf_X2_parameterCount k3.2 (fun r7 s6 k60 => ?_)
    have k6 := k3.trans k60
    refine ⟨fun c7 => ?_, fun c7 => ?_⟩
    · refine sf_X2_noteWrong k6.2 (fun s8 k80 => ?_)
      have k8 := k6.trans k80
      exact h _ k8
    · refine sf_X2_resultOf k6.2 (fun r10 s9 k90 => ?_)
      have k9 := k6.trans k90
      refine ⟨fun c10 => ?_, fun c10 => ?_⟩
      · exact h _ k9
      · refine sf_X2_noteWrong k9.2 (fun s11 k110 => ?_)
        have k11 := k9.trans k110
        exact h _ k11
theorem sf_X7_begin {σ : zS} {a1 : Int32} {K : zS → Prop} {QX : zS → Prop} (hv : sV σ) (h : ∀ s, sR σ s → K s) : zCT zZC zmX7_begin [.ref 7, .int a1] σ (zQv K) QX := by
  refine rX7_begin (fun m x1 x2 s => sR σ s ∧ 0 ≤ x2.toInt ∧ m = (2147483648 - x2.toInt).toNat) ?_ ?_
  · rintro m x1 x2 τ ⟨k0, hx, rfl⟩
    unfold PX7_begin_22
    refine sf_X2_parameterCount k0.2 (fun r2 s1 k10 => ?_)
    have k1 := k0.trans k10
    refine ⟨fun c2 => ?_, fun c2 => ?_⟩
    · exact h _ k1
    · refine sf_X2_parameter k1.2 (fun r4 s3 k30 => ?_)
      have k3 := k1.trans k30
      refine sf_X7_addLocals k3.2 (fun s5 k40 => ?_)
      have k4 := k3.trans k40
      exact ⟨_, (inc_1 c2 hx).2, k4, (inc_1 c2 hx).1, rfl⟩
  · unfold PX7_begin_0
    have k0 : sR σ σ := ⟨sK.rf, hv⟩
    refine sf_X2_resultOf k0.2 (fun r2 s1 k50 => ?_)
    have k5 := k0.trans k50
    refine sf_X3_begin k5.2 (fun s3 k60 => ?_)
    have k6 := k5.trans k60
    intro s4 e7
    have k8 : sR σ s4 := by rw [e7]; exact k6.v _ (by omega) (by decide)
    exact ⟨_, trivial, k8, by decide, rfl⟩
theorem sf_X7_isRight {σ : zS} {K : Int32 → zS → Prop} {QX : zS → Prop} (hv : sV σ) (h : ∀ r s, (r = 0 ∨ r = 1) → sR σ s → K r s) : zCT zZC zmX7_isRight [.ref 7, .ref 6] σ (zQi K) QX := by
  refine rX7_isRight ?_
  unfold PX7_isRight_0
  have k0 : sR σ σ := ⟨sK.rf, hv⟩
  refine ⟨Or.inr rfl, ?_⟩
  intro s1 e1
  have k2 : sR σ s1 := by rw [e1]; exact k0.r _ (Or.inr rfl)
  refine ⟨fun c3 => ?_, fun c3 => ?_⟩
  · unfold PX7_isRight_24
    refine sf_X7_followFrame k2.2 (fun s1_4 k50 => ?_)
    have k5 := k2.trans k50
    refine ⟨k5.2.2.2.2.1, ?_⟩
    exact h _ _ k5.2.2.2.2.1 k5
  · refine ⟨fun c6 => ?_, fun c6 => ?_⟩
    · unfold PX7_isRight_24
      refine sf_X7_followFrame k2.2 (fun s1_7 k80 => ?_)
      have k8 := k2.trans k80
      refine ⟨k8.2.2.2.2.1, ?_⟩
      exact h _ _ k8.2.2.2.2.1 k8
    · refine ⟨fun c9 => ?_, fun c9 => ?_⟩
      · refine sf_X7_followTable k2.2 (fun s2 k100 => ?_)
        have k10 := k2.trans k100
        refine ⟨k10.2.2.2.2.1, ?_⟩
        exact h _ _ k10.2.2.2.2.1 k10
      · refine ⟨fun c11 => ?_, fun c11 => ?_⟩
        · refine ⟨fun c12 => ?_, fun c12 => ?_⟩
          · refine ⟨fun c13 => ?_, fun c13 => ?_⟩
            · refine ⟨fun c14 => ?_, fun c14 => ?_⟩
              · refine ⟨fun c15 => ?_, fun c15 => ?_⟩
                · refine ⟨fun c16 => ?_, fun c16 => ?_⟩
                  · refine ⟨fun c17 => ?_, fun c17 => ?_⟩
                    · refine ⟨fun c18 => ?_, fun c18 => ?_⟩
                      · refine sf_X7_followLonger k2.2 (fun s3 k190 => ?_)
                        have k19 := k2.trans k190
                        refine ⟨k19.2.2.2.2.1, ?_⟩
                        exact h _ _ k19.2.2.2.2.1 k19
                      · refine sf_X7_followPlain k2.2 (fun s4 k200 => ?_)
                        have k20 := k2.trans k200
                        refine ⟨k20.2.2.2.2.1, ?_⟩
                        exact h _ _ k20.2.2.2.2.1 k20
                    · refine sf_X7_followSize k2.2 (fun s5 k210 => ?_)
                      have k21 := k2.trans k210
                      refine ⟨k21.2.2.2.2.1, ?_⟩
                      exact h _ _ k21.2.2.2.2.1 k21
                  · refine sf_X7_followAccess k2.2 (fun s6 k220 => ?_)
                    have k22 := k2.trans k220
                    refine ⟨k22.2.2.2.2.1, ?_⟩
                    exact h _ _ k22.2.2.2.2.1 k22
                · refine sf_X7_followGlobal k2.2 (fun s7 k230 => ?_)
                  have k23 := k2.trans k230
                  refine ⟨k23.2.2.2.2.1, ?_⟩
                  exact h _ _ k23.2.2.2.2.1 k23
              · refine sf_X7_followLocal k2.2 (fun s8 k240 => ?_)
                have k24 := k2.trans k240
                refine ⟨k24.2.2.2.2.1, ?_⟩
                exact h _ _ k24.2.2.2.2.1 k24
            · refine sf_X7_followChoice k2.2 (fun s9 k250 => ?_)
              have k25 := k2.trans k250
              refine ⟨k25.2.2.2.2.1, ?_⟩
              exact h _ _ k25.2.2.2.2.1 k25
          · refine sf_X7_followCall k2.2 (fun s10 k260 => ?_)
            have k26 := k2.trans k260
            refine ⟨k26.2.2.2.2.1, ?_⟩
            exact h _ _ k26.2.2.2.2.1 k26
        · refine sf_X7_followLeap k2.2 (fun s11 k270 => ?_)
          have k27 := k2.trans k270
          refine ⟨k27.2.2.2.2.1, ?_⟩
          exact h _ _ k27.2.2.2.2.1 k27
theorem sf_X1_readGroups {σ : zS} {K : zS → Prop} {QX : zS → Prop} (hv : sV σ) (h : ∀ s, sR σ s → K s) : zCT zZC zmX1_readGroups [.ref 4] σ (zQv K) QX := by
  refine rX1_readGroups (fun m x1 x2 x4 s => sR σ s ∧ 0 ≤ x4.toInt ∧ m = (2147483648 - x4.toInt).toNat) ?_ ?_
  · rintro m x1 x2 x4 τ ⟨k0, hx, rfl⟩
    unfold PX1_readGroups_13
    refine ⟨fun c1 => ?_, fun c1 => ?_⟩
    · exact h _ k0
    · refine ⟨fun c2 => ?_, fun c2 => ?_⟩
      · refine sf_X4_number k0.2 (fun r2 s1 p4 k30 => ?_)
        have k3 := k0.trans k30
        refine sf_X4_type k3.2 (fun r4 s3 k50 => ?_)
        have k5 := k3.trans k50
        refine ⟨fun c6 => ?_, fun c6 => ?_⟩
        · refine sf_X7_addLocals k5.2 (fun s5 k70 => ?_)
          have k7 := k5.trans k70
          exact ⟨_, (inc_1 c1 hx).2, k7, (inc_1 c1 hx).1, rfl⟩
        · refine sf_X4_fail k5.2 (fun s6 k80 => ?_)
          have k8 := k5.trans k80
          exact ⟨_, (inc_1 c1 hx).2, k8, (inc_1 c1 hx).1, rfl⟩
      · exact h _ k0
  · unfold PX1_readGroups_0
    have k0 : sR σ σ := ⟨sK.rf, hv⟩
    refine sf_X4_rowLength k0.2 (fun r2 s1 p10 k90 => ?_)
    have k9 := k0.trans k90
    exact ⟨_, trivial, k9, by decide, rfl⟩
theorem sf_X4_enter {σ : zS} {K : Int32 → zS → Prop} {QX : zS → Prop} (hv : sV σ) (h : ∀ r s, sR σ s → K r s) : zCT zZC zmX4_enter [.ref 1] σ (zQi K) QX := by
  refine rX4_enter ?_
  unfold PX4_enter_0
  have k0 : sR σ σ := ⟨sK.rf, hv⟩
  refine sf_X4_length k0.2 (fun r2 s1 k10 => ?_)
  have k1 := k0.trans k10
  refine ⟨fun c2 => ?_, fun c2 => ?_⟩
  · intro s3 e3
    have k4 : sR σ s3 := by rw [e3]; exact k1.i _ (by omega)
    exact h _ _ k4
  · exact h _ _ k1
theorem sf_X4_outerName {σ : zS} {K : Int32 → zS → Prop} {QX : zS → Prop} (hv : sV σ) (h : ∀ r s, sR σ s → K r s) : zCT zZC zmX4_outerName [.ref 1] σ (zQi K) QX := by
  refine rX4_outerName ?_
  unfold PX4_outerName_0
  have k0 : sR σ σ := ⟨sK.rf, hv⟩
  refine sf_X4_name k0.2 (fun r2 s1 k10 => ?_)
  have k1 := k0.trans k10
  refine ⟨fun c2 => ?_, fun c2 => ?_⟩
  · exact h _ _ k1
  · refine sf_X4_fail k1.2 (fun s3 k30 => ?_)
    have k3 := k1.trans k30
    exact h _ _ k3
theorem sf_X5_readLabels {σ : zS} {K : zS → Prop} {QX : zS → Prop} (hv : sV σ) (h : ∀ s, sR σ s → K s) : zCT zZC zmX5_readLabels [.ref 6, .ref 1] σ (zQv K) QX := by
  refine rX5_readLabels (fun m x3 x4 s => sR σ s ∧ 0 ≤ x4.toInt ∧ m = (2147483648 - x4.toInt).toNat) ?_ ?_
  · rintro m x3 x4 τ ⟨k0, hx, rfl⟩
    unfold PX5_readLabels_31
    refine ⟨fun c1 => ?_, fun c1 => ?_⟩
    · exact h _ k0
    · refine ⟨fun c2 => ?_, fun c2 => ?_⟩
      · refine ⟨fun c3 => ?_, fun c3 => ?_⟩
        · exact h _ k0
        · refine sf_X4_number k0.2 (fun r2 s1 p5 k40 => ?_)
          have k4 := k0.trans k40
          refine ⟨(vp_lh hx (vh_1 c3) (by decide)), ?_⟩
          intro s3 e6
          have k7 : sR σ s3 := by rw [e6]; exact k4.l _ (by omega)
          intro s4 e8
          have k9 : sR σ s4 := by rw [e8]; exact k7.i _ (by omega)
          exact ⟨_, (inc_1 c3 hx).2, k9, (inc_1 c3 hx).1, rfl⟩
      · exact h _ k0
  · unfold PX5_readLabels_0
    have k0 : sR σ σ := ⟨sK.rf, hv⟩
    refine sf_X4_rowLength k0.2 (fun r2 s1 p11 k100 => ?_)
    have k10 := k0.trans k100
    refine ⟨fun c12 => ?_, fun c12 => ?_⟩
    · intro s3 e13
      have k14 : sR σ s3 := by rw [e13]; exact k10.i _ (by omega)
      exact ⟨_, trivial, k14, by decide, rfl⟩
    · refine sf_X4_fail k10.2 (fun s4 k150 => ?_)
      have k15 := k10.trans k150
      intro s5 e16
      have k17 : sR σ s5 := by rw [e16]; exact k15.i _ (by omega)
      exact ⟨_, trivial, k17, by decide, rfl⟩
theorem sf_X6_readData {σ : zS} {K : zS → Prop} {QX : zS → Prop} (hv : sV σ) (h : ∀ s, sR σ s → K s) : zCT zZC zmX6_readData [.ref 3] σ (zQv K) QX := by
  refine rX6_readData ?_
  unfold PX6_readData_0
  have k0 : sR σ σ := ⟨sK.rf, hv⟩
  refine sf_X4_octetWithin k0.2 (fun r2 s1 k10 => ?_)
  have k1 := k0.trans k10
  refine ⟨fun c2 => ?_, fun c2 => ?_⟩
  · refine ⟨fun c3 => ?_, fun c3 => ?_⟩
    · refine sf_X2_noteWrong k1.2 (fun s3 k40 => ?_)
      have k4 := k1.trans k40
      refine sf_X6_readConstant k4.2 (fun s4 k50 => ?_)
      have k5 := k4.trans k50
      refine sf_X4_length k5.2 (fun r6 s5 k60 => ?_)
      have k6 := k5.trans k60
      intro s7 e7
      have k8 : sR σ s7 := by rw [e7]; exact k6.i _ (by omega)
      exact h _ k8
    · refine sf_X6_readConstant k1.2 (fun s8 k90 => ?_)
      have k9 := k1.trans k90
      refine sf_X4_length k9.2 (fun r10 s9 k100 => ?_)
      have k10 := k9.trans k100
      intro s11 e11
      have k12 : sR σ s11 := by rw [e11]; exact k10.i _ (by omega)
      exact h _ k12
  · refine sf_X4_length k1.2 (fun r13 s12 k130 => ?_)
    have k13 := k1.trans k130
    intro s14 e14
    have k15 : sR σ s14 := by rw [e14]; exact k13.i _ (by omega)
    exact h _ k15
theorem sf_X6_readGlobal {σ : zS} {K : zS → Prop} {QX : zS → Prop} (hv : sV σ) (h : ∀ s, sR σ s → K s) : zCT zZC zmX6_readGlobal [.ref 3] σ (zQv K) QX := by
  refine rX6_readGlobal ?_
  unfold PX6_readGlobal_0
  have k0 : sR σ σ := ⟨sK.rf, hv⟩
  refine sf_X4_type k0.2 (fun r2 s1 k10 => ?_)
  have k1 := k0.trans k10
  refine sf_X4_octetWithin k1.2 (fun r4 s3 k20 => ?_)
  have k2 := k1.trans k20
  refine ⟨fun c3 => ?_, fun c3 => ?_⟩
  · refine sf_X6_readConstant k2.2 (fun s5 k40 => ?_)
    have k4 := k2.trans k40
    refine sf_X2_addGlobal k4.2 (fun s6 k50 => ?_)
    have k5 := k4.trans k50
    exact h _ k5
  · refine sf_X6_readConstant k2.2 (fun s7 k60 => ?_)
    have k6 := k2.trans k60
    refine sf_X2_addGlobal k6.2 (fun s8 k70 => ?_)
    have k7 := k6.trans k70
    exact h _ k7
theorem sf_X6_readMemory {σ : zS} {K : zS → Prop} {QX : zS → Prop} (hv : sV σ) (h : ∀ s, sR σ s → K s) : zCT zZC zmX6_readMemory [.ref 3] σ (zQv K) QX := by
  refine rX6_readMemory ?_
  unfold PX6_readMemory_0
  have k0 : sR σ σ := ⟨sK.rf, hv⟩
  refine sf_X6_addMemory k0.2 (fun s1 k10 => ?_)
  have k1 := k0.trans k10
  refine sf_X6_readLimits k1.2 (fun s2 k20 => ?_)
  have k2 := k1.trans k20
  exact h _ k2
theorem sf_X6_readRowOfFunctions {σ : zS} {K : zS → Prop} {QX : zS → Prop} (hv : sV σ) (h : ∀ s, sR σ s → K s) : zCT zZC zmX6_readRowOfFunctions [.ref 3] σ (zQv K) QX := by
  refine rX6_readRowOfFunctions (fun m x2 x3 s => sR σ s ∧ 0 ≤ x3.toInt ∧ m = (2147483648 - x3.toInt).toNat) ?_ ?_
  · rintro m x2 x3 τ ⟨k0, hx, rfl⟩
    unfold PX6_readRowOfFunctions_34
    refine ⟨fun c1 => ?_, fun c1 => ?_⟩
    · exact h _ k0
    · refine ⟨fun c2 => ?_, fun c2 => ?_⟩
      · refine sf_X4_number k0.2 (fun r2 s1 p4 k30 => ?_)
        have k3 := k0.trans k30
        refine ⟨fun c5 => ?_, fun c5 => ?_⟩
        · exact ⟨_, (inc_1 c1 hx).2, k3, (inc_1 c1 hx).1, rfl⟩
        · refine sf_X2_noteWrong k3.2 (fun s3 k60 => ?_)
          have k6 := k3.trans k60
          exact ⟨_, (inc_1 c1 hx).2, k6, (inc_1 c1 hx).1, rfl⟩
      · exact h _ k0
  · unfold PX6_readRowOfFunctions_0
    have k0 : sR σ σ := ⟨sK.rf, hv⟩
    refine sf_X4_rowLength k0.2 (fun r2 s1 p8 k70 => ?_)
    have k7 := k0.trans k70
    refine ⟨fun c9 => ?_, fun c9 => ?_⟩
    · exact ⟨_, trivial, k7, by decide, rfl⟩
    · refine sf_X4_fail k7.2 (fun s3 k100 => ?_)
      have k10 := k7.trans k100
      exact ⟨_, trivial, k10, by decide, rfl⟩
theorem sf_X6_readSignature {σ : zS} {K : zS → Prop} {QX : zS → Prop} (hv : sV σ) (h : ∀ s, sR σ s → K s) : zCT zZC zmX6_readSignature [.ref 3] σ (zQv K) QX := by
  refine rX6_readSignature (fun m x1 x2 x3 s => sR σ s ∧ 0 ≤ x3.toInt ∧ m = 2147483648 + (2147483648 - x3.toInt).toNat ∧ vp_in x1 64) (fun m x1 x3 x4 s => sR σ s ∧ 0 ≤ x4.toInt ∧ m = (2147483648 - x4.toInt).toNat ∧ vp_in x1 64) ?_ ?_ ?_
  · rintro m x1 x2 x3 τ ⟨k0, hx, rfl, hz⟩
    unfold PX6_readSignature_76
    refine ⟨fun c1 => ?_, fun c1 => ?_⟩
    · refine sf_X4_rowLength k0.2 (fun r2 s1 p3 k20 => ?_)
      have k2 := k0.trans k20
      exact ⟨_, sig_lt hx, k2, by decide, rfl, hz⟩
    · refine ⟨fun c4 => ?_, fun c4 => ?_⟩
      · refine sf_X6_refuseBeyond k0.2 (fun s3 k50 => ?_)
        have k5 := k0.trans k50
        refine sf_X4_type k5.2 (fun r5 s4 k60 => ?_)
        have k6 := k5.trans k60
        refine sf_X2_addParameter k6.2 hx (fun s6 k70 => ?_)
        have k7 := k6.trans k70
        exact ⟨_, Nat.add_lt_add_left (inc_1 c1 hx).2 _, k7, (inc_1 c1 hx).1, rfl, hz⟩
      · refine sf_X4_rowLength k0.2 (fun r8 s7 p9 k80 => ?_)
        have k8 := k0.trans k80
        exact ⟨_, sig_lt hx, k8, by decide, rfl, hz⟩
  · rintro m x1 x3 x4 τ ⟨k0, hx, rfl, hz⟩
    unfold PX6_readSignature_130
    refine ⟨fun c10 => ?_, fun c10 => ?_⟩
    · exact h _ k0
    · refine ⟨fun c11 => ?_, fun c11 => ?_⟩
      · refine sf_X6_refuseBeyond k0.2 (fun s1 k120 => ?_)
        have k12 := k0.trans k120
        refine sf_X4_type k12.2 (fun r3 s2 k130 => ?_)
        have k13 := k12.trans k130
        refine ⟨hz, ?_⟩
        intro s4 e14
        have k15 : sR σ s4 := by rw [e14]; exact k13.i _ (by omega)
        exact ⟨_, (inc_1 c10 hx).2, k15, (inc_1 c10 hx).1, rfl, hz⟩
      · exact h _ k0
  · unfold PX6_readSignature_0
    have k0 : sR σ σ := ⟨sK.rf, hv⟩
    refine sf_X4_octetWithin k0.2 (fun r2 s1 k160 => ?_)
    have k16 := k0.trans k160
    refine ⟨(by unfold vp_in; decide), ?_⟩
    refine ⟨fun c17 => ?_, fun c17 => ?_⟩
    · refine ⟨fun c18 => ?_, fun c18 => ?_⟩
      · refine ⟨(vp_lh k16.2.2.2.2.2.1 (vh_2 c18) (by decide)), ?_⟩
        intro s3 e19
        have k20 : sR σ s3 := by rw [e19]; exact k16.i _ (by omega)
        refine ⟨(vp_lh k16.2.2.2.2.2.1 (vh_2 c18) (by decide)), ?_⟩
        intro s4 e21
        have k22 : sR σ s4 := by rw [e21]; exact k20.i _ (by omega)
        refine sf_X4_rowLength k22.2 (fun r6 s5 p24 k230 => ?_)
        have k23 := k22.trans k230
        exact ⟨_, trivial, k23, by decide, rfl, (vp_lh k16.2.2.2.2.2.1 (vh_2 c18) (by decide))⟩
      · exact h _ k16
    · exact h _ k16
theorem sf_X6_readTable {σ : zS} {K : zS → Prop} {QX : zS → Prop} (hv : sV σ) (h : ∀ s, sR σ s → K s) : zCT zZC zmX6_readTable [.ref 3] σ (zQv K) QX := by
  refine rX6_readTable ?_
  unfold PX6_readTable_0
  have k0 : sR σ σ := ⟨sK.rf, hv⟩
  refine sf_X6_addTable k0.2 (fun s1 k10 => ?_)
  have k1 := k0.trans k10
  refine sf_X4_octetWithin k1.2 (fun r3 s2 k20 => ?_)
  have k2 := k1.trans k20
  refine sf_X6_readLimits k2.2 (fun s4 k30 => ?_)
  have k3 := k2.trans k30
  exact h _ k3
theorem sf_X1_readInstruction {σ : zS} {K : zS → Prop} {QX : zS → Prop} (hv : sV σ) (h : ∀ s, sR σ s → K s) : zCT zZC zmX1_readInstruction [.ref 4] σ (zQv K) QX := by
  refine rX1_readInstruction ?_
  unfold PX1_readInstruction_0
  have k0 : sR σ σ := ⟨sK.rf, hv⟩
  refine sf_X5_readNumber k0.2 (fun s1 k10 => ?_)
  have k1 := k0.trans k10
  refine sf_X1_lookWhereItStands k1.2 (fun s2 k20 => ?_)
  have k2 := k1.trans k20
  refine ⟨fun c3 => ?_, fun c3 => ?_⟩
  · refine sf_X5_readLabels k2.2 (fun s3 k40 => ?_)
    have k4 := k2.trans k40
    refine ⟨fun c5 => ?_, fun c5 => ?_⟩
    · refine sf_X0_addCode k4.2 (fun s4 k60 => ?_)
      have k6 := k4.trans k60
      refine ⟨fun c7 => ?_, fun c7 => ?_⟩
      · refine sf_X1_turnFrames k6.2 (fun s5 k80 => ?_)
        have k8 := k6.trans k80
        exact h _ k8
      · refine sf_X7_isRight k6.2 (fun r7 s6 b10 k90 => ?_)
        have k9 := k6.trans k90
        refine ⟨fun c11 => ?_, fun c11 => ?_⟩
        · refine sf_X2_noteWrong k9.2 (fun s8 k120 => ?_)
          have k12 := k9.trans k120
          refine ⟨Or.inl rfl, ?_⟩
          intro s9 e13
          have k14 : sR σ s9 := by rw [e13]; exact k12.i _ (by omega)
          refine sf_X1_turnFrames k14.2 (fun s10 k150 => ?_)
          have k15 := k14.trans k150
          exact h _ k15
        · refine sf_X1_turnFrames k9.2 (fun s11 k160 => ?_)
          have k16 := k9.trans k160
          exact h _ k16
    · exact h _ k4
  · refine sf_X5_readArguments k2.2 (fun s12 k170 => ?_)
    have k17 := k2.trans k170
    refine ⟨fun c18 => ?_, fun c18 => ?_⟩
    · refine sf_X0_addCode k17.2 (fun s13 k190 => ?_)
      have k19 := k17.trans k190
      refine ⟨fun c20 => ?_, fun c20 => ?_⟩
      · refine sf_X1_turnFrames k19.2 (fun s14 k210 => ?_)
        have k21 := k19.trans k210
        exact h _ k21
      · refine sf_X7_isRight k19.2 (fun r16 s15 b23 k220 => ?_)
        have k22 := k19.trans k220
        refine ⟨fun c24 => ?_, fun c24 => ?_⟩
        · refine sf_X2_noteWrong k22.2 (fun s17 k250 => ?_)
          have k25 := k22.trans k250
          refine ⟨Or.inl rfl, ?_⟩
          intro s18 e26
          have k27 : sR σ s18 := by rw [e26]; exact k25.i _ (by omega)
          refine sf_X1_turnFrames k27.2 (fun s19 k280 => ?_)
          have k28 := k27.trans k280
          exact h _ k28
        · refine sf_X1_turnFrames k22.2 (fun s20 k290 => ?_)
          have k29 := k22.trans k290
          exact h _ k29
    · exact h _ k17
theorem sf_X6_readElement {σ : zS} {K : zS → Prop} {QX : zS → Prop} (hv : sV σ) (h : ∀ s, sR σ s → K s) : zCT zZC zmX6_readElement [.ref 3] σ (zQv K) QX := by
  refine rX6_readElement ?_
  unfold PX6_readElement_0
  have k0 : sR σ σ := ⟨sK.rf, hv⟩
  refine sf_X4_octet k0.2 (fun r2 s1 k10 => ?_)
  have k1 := k0.trans k10
  refine ⟨fun c2 => ?_, fun c2 => ?_⟩
  · refine ⟨fun c3 => ?_, fun c3 => ?_⟩
    · refine sf_X2_noteWrong k1.2 (fun s3 k40 => ?_)
      have k4 := k1.trans k40
      refine sf_X6_readConstant k4.2 (fun s4 k50 => ?_)
      have k5 := k4.trans k50
      refine sf_X6_readRowOfFunctions k5.2 (fun s5 k60 => ?_)
      have k6 := k5.trans k60
      exact h _ k6
    · refine sf_X6_readConstant k1.2 (fun s6 k70 => ?_)
      have k7 := k1.trans k70
      refine sf_X6_readRowOfFunctions k7.2 (fun s7 k80 => ?_)
      have k8 := k7.trans k80
      exact h _ k8
  · refine ⟨fun c9 => ?_, fun c9 => ?_⟩
    · refine sf_X4_octetWithin k1.2 (fun r9 s8 k100 => ?_)
      have k10 := k1.trans k100
      refine sf_X6_readRowOfFunctions k10.2 (fun s10 k110 => ?_)
      have k11 := k10.trans k110
      exact h _ k11
    · refine sf_X4_fail k1.2 (fun s11 k120 => ?_)
      have k12 := k1.trans k120
      refine sf_X6_readRowOfFunctions k12.2 (fun s12 k130 => ?_)
      have k13 := k12.trans k130
      exact h _ k13
theorem sf_X6_readExport {σ : zS} {K : zS → Prop} {QX : zS → Prop} (hv : sV σ) (h : ∀ s, sR σ s → K s) : zCT zZC zmX6_readExport [.ref 3] σ (zQv K) QX := by
  refine rX6_readExport ?_
  unfold PX6_readExport_0
  have k0 : sR σ σ := ⟨sK.rf, hv⟩
  refine sf_X4_outerName k0.2 (fun r2 s1 k10 => ?_)
  have k1 := k0.trans k10
  refine sf_X4_octetWithin k1.2 (fun r4 s3 k20 => ?_)
  have k2 := k1.trans k20
  refine sf_X4_number k2.2 (fun r6 s5 p4 k30 => ?_)
  have k3 := k2.trans k30
  refine sf_X2_countOfKind k3.2 (fun r8 s7 k50 => ?_)
  have k5 := k3.trans k50
  refine ⟨fun c6 => ?_, fun c6 => ?_⟩
  · unfold PX6_readExport_82
    refine sf_X6_isExported k5.2 (fun r2_7 s1_7 b9 k80 => ?_)
    have k8 := k5.trans k80
    refine ⟨fun c10 => ?_, fun c10 => ?_⟩
    · unfold PX6_readExport_101
      refine ⟨(by unfold vp_in; decide), ?_⟩
      refine ⟨fun c12 => ?_, fun c12 => ?_⟩
      · exact h _ k8
      · refine ⟨(vp_lh k8.2.2.2.2.2.2.1 (vh_1 c12) (by decide)), ?_⟩
        intro s1_11 e13
        have k14 : sR σ s1_11 := by rw [e13]; exact k8.i _ (by omega)
        refine ⟨(vp_lh k8.2.2.2.2.2.2.1 (vh_1 c12) (by decide)), ?_⟩
        intro s2_11 e15
        have k16 : sR σ s2_11 := by rw [e15]; exact k14.i _ (by omega)
        exact h _ k16
    · refine sf_X2_noteWrong k8.2 (fun s3_7 k170 => ?_)
      have k17 := k8.trans k170
      unfold PX6_readExport_101
      refine ⟨(by unfold vp_in; decide), ?_⟩
      refine ⟨fun c19 => ?_, fun c19 => ?_⟩
      · exact h _ k17
      · refine ⟨(vp_lh k17.2.2.2.2.2.2.1 (vh_1 c19) (by decide)), ?_⟩
        intro s1_18 e20
        have k21 : sR σ s1_18 := by rw [e20]; exact k17.i _ (by omega)
        refine ⟨(vp_lh k17.2.2.2.2.2.2.1 (vh_1 c19) (by decide)), ?_⟩
        intro s2_18 e22
        have k23 : sR σ s2_18 := by rw [e22]; exact k21.i _ (by omega)
        exact h _ k23
  · refine sf_X2_noteWrong k5.2 (fun s9 k240 => ?_)
    have k24 := k5.trans k240
    unfold PX6_readExport_82
    refine sf_X6_isExported k24.2 (fun r2_25 s1_25 b27 k260 => ?_)
    have k26 := k24.trans k260
    refine ⟨fun c28 => ?_, fun c28 => ?_⟩
    · unfold PX6_readExport_101
      refine ⟨(by unfold vp_in; decide), ?_⟩
      refine ⟨fun c30 => ?_, fun c30 => ?_⟩
      · exact h _ k26
      · refine ⟨(vp_lh k26.2.2.2.2.2.2.1 (vh_1 c30) (by decide)), ?_⟩
        intro s1_29 e31
        have k32 : sR σ s1_29 := by rw [e31]; exact k26.i _ (by omega)
        refine ⟨(vp_lh k26.2.2.2.2.2.2.1 (vh_1 c30) (by decide)), ?_⟩
        intro s2_29 e33
        have k34 : sR σ s2_29 := by rw [e33]; exact k32.i _ (by omega)
        exact h _ k34
    · refine sf_X2_noteWrong k26.2 (fun s3_25 k350 => ?_)
      have k35 := k26.trans k350
      unfold PX6_readExport_101
      refine ⟨(by unfold vp_in; decide), ?_⟩
      refine ⟨fun c37 => ?_, fun c37 => ?_⟩
      · exact h _ k35
      · refine ⟨(vp_lh k35.2.2.2.2.2.2.1 (vh_1 c37) (by decide)), ?_⟩
        intro s1_36 e38
        have k39 : sR σ s1_36 := by rw [e38]; exact k35.i _ (by omega)
        refine ⟨(vp_lh k35.2.2.2.2.2.2.1 (vh_1 c37) (by decide)), ?_⟩
        intro s2_36 e40
        have k41 : sR σ s2_36 := by rw [e40]; exact k39.i _ (by omega)
        exact h _ k41
theorem sf_X6_readImport {σ : zS} {K : zS → Prop} {QX : zS → Prop} (hv : sV σ) (h : ∀ s, sR σ s → K s) : zCT zZC zmX6_readImport [.ref 3] σ (zQv K) QX := by
  refine rX6_readImport ?_
  unfold PX6_readImport_0
  have k0 : sR σ σ := ⟨sK.rf, hv⟩
  refine sf_X4_outerName k0.2 (fun r2 s1 k10 => ?_)
  have k1 := k0.trans k10
  refine sf_X4_outerName k1.2 (fun r4 s3 k20 => ?_)
  have k2 := k1.trans k20
  refine sf_X4_octetWithin k2.2 (fun r6 s5 k30 => ?_)
  have k3 := k2.trans k30
  refine ⟨fun c4 => ?_, fun c4 => ?_⟩
  · refine sf_X6_readSignatureOfFunction k3.2 (fun s7 k50 => ?_)
    have k5 := k3.trans k50
    intro s8 e6
    have k7 : sR σ s8 := by rw [e6]; exact k5.i _ (by omega)
    exact h _ k7
  · refine ⟨fun c8 => ?_, fun c8 => ?_⟩
    · refine sf_X4_octetWithin k3.2 (fun r10 s9 k90 => ?_)
      have k9 := k3.trans k90
      refine sf_X6_readLimits k9.2 (fun s11 k100 => ?_)
      have k10 := k9.trans k100
      refine sf_X6_addTable k10.2 (fun s12 k110 => ?_)
      have k11 := k10.trans k110
      exact h _ k11
    · refine ⟨fun c12 => ?_, fun c12 => ?_⟩
      · refine sf_X6_readLimits k3.2 (fun s13 k130 => ?_)
        have k13 := k3.trans k130
        refine sf_X6_addMemory k13.2 (fun s14 k140 => ?_)
        have k14 := k13.trans k140
        exact h _ k14
      · refine sf_X4_type k3.2 (fun r16 s15 k150 => ?_)
        have k15 := k3.trans k150
        refine sf_X4_octetWithin k15.2 (fun r18 s17 k160 => ?_)
        have k16 := k15.trans k160
        refine ⟨fun c17 => ?_, fun c17 => ?_⟩
        · refine sf_X2_addGlobal k16.2 (fun s19 k180 => ?_)
          have k18 := k16.trans k180
          intro s20 e19
          have k20 : sR σ s20 := by rw [e19]; exact k18.i _ (by omega)
          exact h _ k20
        · refine sf_X2_addGlobal k16.2 (fun s21 k210 => ?_)
          have k21 := k16.trans k210
          intro s22 e22
          have k23 : sR σ s22 := by rw [e22]; exact k21.i _ (by omega)
          exact h _ k23
theorem sf_X1_readBody {σ : zS} {a1 : Int32} {K : zS → Prop} {QX : zS → Prop} (hv : sV σ) (h : ∀ s, sR σ s → K s) : zCT zZC zmX1_readBody [.ref 4, .int a1] σ (zQv K) QX := by
  refine rX1_readBody (fun m x1 x2 x4 s => sR σ s ∧ 0 ≤ x4.toInt ∧ m = (2147483648 - x4.toInt).toNat) ?_ ?_
  · rintro m x1 x2 x4 τ ⟨k0, hx, rfl⟩
    unfold PX1_readBody_65
    refine ⟨fun c1 => ?_, fun c1 => ?_⟩
    · refine sf_X0_endBody k0.2 (fun s1 k20 => ?_)
      have k2 := k0.trans k20
      refine sf_X4_leave k2.2 (fun s2 k30 => ?_)
      have k3 := k2.trans k30
      exact h _ k3
    · refine ⟨fun c4 => ?_, fun c4 => ?_⟩
      · refine sf_X0_endBody k0.2 (fun s3 k50 => ?_)
        have k5 := k0.trans k50
        refine sf_X4_leave k5.2 (fun s4 k60 => ?_)
        have k6 := k5.trans k60
        exact h _ k6
      · refine ⟨fun c7 => ?_, fun c7 => ?_⟩
        · refine sf_X1_readInstruction k0.2 (fun s5 k80 => ?_)
          have k8 := k0.trans k80
          exact ⟨_, (inc_1 c1 hx).2, k8, (inc_1 c1 hx).1, rfl⟩
        · refine sf_X0_endBody k0.2 (fun s6 k90 => ?_)
          have k9 := k0.trans k90
          refine sf_X4_leave k9.2 (fun s7 k100 => ?_)
          have k10 := k9.trans k100
          exact h _ k10
  · unfold PX1_readBody_0
    have k0 : sR σ σ := ⟨sK.rf, hv⟩
    refine sf_X4_enter k0.2 (fun r2 s1 k110 => ?_)
    have k11 := k0.trans k110
    refine sf_X2_signatureOf k11.2 (fun r4 s3 k120 => ?_)
    have k12 := k11.trans k120
    refine ⟨fun c13 => ?_, fun c13 => ?_⟩
    · refine sf_X7_begin k12.2 (fun s5 k140 => ?_)
      have k14 := k12.trans k140
      refine sf_X1_readGroups k14.2 (fun s6 k150 => ?_)
      have k15 := k14.trans k150
      refine sf_X0_beginBody k15.2 (fun s7 k160 => ?_)
      have k16 := k15.trans k160
      exact ⟨_, trivial, k16, by decide, rfl⟩
    · refine ⟨Or.inl rfl, ?_⟩
      intro s8 e17
      have k18 : sR σ s8 := by rw [e17]; exact k12.i _ (by omega)
      refine sf_X7_begin k18.2 (fun s9 k190 => ?_)
      have k19 := k18.trans k190
      refine sf_X1_readGroups k19.2 (fun s10 k200 => ?_)
      have k20 := k19.trans k200
      refine sf_X0_beginBody k20.2 (fun s11 k210 => ?_)
      have k21 := k20.trans k210
      exact ⟨_, trivial, k21, by decide, rfl⟩
