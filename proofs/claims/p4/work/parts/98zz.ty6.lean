theorem tLabs_fl : ∀ (l : List Nat) (o : Option Nat) {t : tT}, t.2.2 = false → (tLabs l o t).2.2.2 = false := by
  intro l
  induction l with
  | nil => intro o t h; exact h
  | cons x r ih => intro o t h; exact ih _ (tNeed_fl (show (tLabel x t).2.2.2 = false from tNeed_fl h))
def tFin (l : List Nat) (o : Option Nat) (u : tT) : tT := tRest (tTake ((tLabs l o u).1.getD 2) (tLabs l o u).2).2
theorem tFin_fl {l : List Nat} {o : Option Nat} {u : tT} (h : u.2.2 = false) : (tFin l o u).2.2 = false := by
  unfold tFin
  rw [tRest_fl]
  exact tTake_fl (tLabs_fl l o h)
/-- the flag of a row of labels -/
theorem tNeed_a (a b : Bool) (t : tT) : tNeed a (tNeed b t) = tNeed (b && a) t := by
  show (t.1, t.2.1, (t.2.2 && b) && a) = (t.1, t.2.1, t.2.2 && (b && a))
  rw [Bool.and_assoc]
theorem tLabs_n : ∀ (l : List Nat) (F : List tF) (o : Option Nat), ∃ (o2 : Option Nat) (c : Bool), ∀ t : tT, t.2.1 = F → tLabs l o t = (o2, tNeed c t) := by
  intro l
  induction l with
  | nil => intro F o; exact ⟨o, true, fun t _ => by rw [tNeed_t]; rfl⟩
  | cons x r ih =>
    intro F o
    have e1 : ∀ t : tT, t.2.1 = F → (tLabel x t).1 = (if x < F.length then (F.getD x tf0).2.1 else 2) := fun t ht => by unfold tLabel; rw [ht]
    obtain ⟨o2, c, h⟩ := ih F (some (if x < F.length then (F.getD x tf0).2.1 else 2))
    refine ⟨o2, (decide (x < F.length) && (decide (o = none) || decide (o = some (if x < F.length then (F.getD x tf0).2.1 else 2)))) && c, fun t ht => ?_⟩
    show tLabs r (some (tLabel x t).1) (tNeed (decide (o = none) || decide (o = some (tLabel x t).1)) (tLabel x t).2) = _
    rw [e1 t ht, h _ (show (tNeed _ (tLabel x t).2).2.1 = F from ht)]
    have e2 : (tLabel x t).2 = tNeed (decide (x < F.length)) t := by unfold tLabel; rw [ht]
    rw [e2, tNeed_a, tNeed_a, Bool.and_assoc]
theorem tTake_need (n : Nat) (c : Bool) (t : tT) : tTake n (tNeed c t) = ((tTake n t).1, tNeed c (tTake n t).2) := by
  have eb : tBase (tNeed c t) = tBase t := rfl
  have eo : tOpen (tNeed c t) = tOpen t := rfl
  unfold tTake
  rw [eb, eo]
  by_cases q : n = 2
  · rw [if_pos q, if_pos q]
  · rw [if_neg q, if_neg q]
    show (if t.1.length = tBase t then ((3, (t.1, t.2.1, (t.2.2 && c) && tOpen t)) : Nat × tT) else (t.1.headD 0, (t.1.tail, t.2.1, (t.2.2 && c) && _))) = _
    by_cases q2 : t.1.length = tBase t
    · rw [if_pos q2, if_pos q2]
      show ((3, (t.1, t.2.1, (t.2.2 && c) && tOpen t)) : Nat × tT) = (3, (t.1, t.2.1, (t.2.2 && tOpen t) && c))
      rw [Bool.and_assoc, Bool.and_assoc, Bool.and_comm c]
    · rw [if_neg q2, if_neg q2]
      show ((t.1.headD 0, (t.1.tail, t.2.1, (t.2.2 && c) && (decide (t.1.headD 0 = n) || decide (t.1.headD 0 = 3) || decide (n = 3)))) : Nat × tT) = (t.1.headD 0, (t.1.tail, t.2.1, (t.2.2 && (decide (t.1.headD 0 = n) || decide (t.1.headD 0 = 3) || decide (n = 3))) && c))
      rw [Bool.and_assoc, Bool.and_assoc, Bool.and_comm c]
theorem tRow_eq (l : List Nat) (t : tT) : tRow l t = tFin l none (tTake 0 t).2 := by
  obtain ⟨o2, c, h⟩ := tLabs_n l t.2.1 none
  unfold tRow tFin
  rw [h t rfl, h (tTake 0 t).2 (tTake_f 0 t)]
  show tRest (tTake (o2.getD 2) (tTake 0 (tNeed c t)).2).2 = tRest (tTake (o2.getD 2) (tNeed c (tTake 0 t).2)).2
  rw [tTake_need]
def lbR (s : zS) (l : List Nat) : Prop := s.1 6 1 = nI l.length ∧ l.length ≤ 257 ∧ ∀ i x, l[i]? = some x → x < 2 ^ 35 ∧ s.2 26 i = lN x
def cI15 (s : zS) (l : List Nat) (K : zS → Prop) (m : Nat) (x2 x3 : Int32) (σ : zS) : Prop :=
  tzR s σ ∧ ∃ j, m = 300 - j ∧ x3 = nI j ∧ j ≤ l.length ∧ ((∃ o u, x2 = nI (tyN (o.getD 2)) ∧ (∀ k, o = some k → k ≤ 2) ∧ (o = none ↔ j = 0) ∧ tG σ u ∧ tOk s (tFin (l.drop j) o u) K) ∨ (∀ u, tzR σ u → K u))
theorem fo_table {s : zS} {t : tT} {l : List Nat} {K : zS → Prop} {QX : zS → Prop} (hs : tG s t) (hL : lbR s l) (h : tOk s (tRow l t) K) : zCT zZC zmX7_followTable [.ref 7, .ref 6] s (zQv K) QX := by
  rw [tRow_eq] at h
  have h257 := hL.2.1
  refine rX7_followTable (cI15 s l K) ?_ ?_
  · rintro m x2 x3 σ ⟨k0, j, rfl, rfl, hj, hI⟩
    have L6 : lbR σ l := ⟨by rw [(k0.1.1 6 1 (by omega)).1]; exact hL.1, h257, fun i x e => ⟨(hL.2.2 i x e).1, by rw [(k0.1.1 26 i (by omega)).2]; exact (hL.2.2 i x e).2⟩⟩
    unfold PX7_followTable_15
    have c1 : (σ.1 6 1) ≤ nI j ↔ l.length ≤ j := by rw [L6.1, nI_leI (by omega) (by omega)]
    have c2 : nI 257 ≤ nI j ↔ 257 ≤ j := nI_leI (by decide) (by omega)
    rw [c1, c2]
    have done : l.length ≤ j → zCT zZC zmX3_take [.ref 5, .int x2] σ (zQi (fun r2 s1 => zCT zZC zmX3_forget [.ref 5] s1 (zQv (fun s3 => zQv K none s3)) QX)) QX := by
      intro q
      rcases hI with ⟨o, u, rfl, ho, hoj, hu, h⟩ | dd
      · rw [List.drop_eq_nil_of_le q] at h
        have h : tOk s (tRest (tTake (o.getD 2) u).2) K := h
        have h2 : o.getD 2 ≤ 2 := by
          cases o with
          | none => exact Nat.le_refl _
          | some k => exact ho k rfl
        refine ty_take hu (by omega) rfl (fun f _ s1 k1 h1 => ?_) (fun f v s1 k1 z1 => ?_)
        · exact ty_forget h1 (fun s2 k2 h2 => h.up ((k0.trans k1).trans k2) h2)
        · exact zf_X3_forget k1.2 (fun s2 k2 => h.dn (by rw [tRest_fl]; exact f) (k0.trans k1) z1 s2 k2)
      · exact zf_X3_take k0.2 (fun v s1 k1 => zf_X3_forget k1.2 (fun s2 k2 => dd s2 (k1.trans k2)))
    refine ⟨fun q => done q, fun q => ⟨fun z => absurd z (by omega), fun _ => ⟨vp_in_nI (by omega) (by decide), ?_⟩⟩⟩
    have hj2 : j < l.length := by omega
    have eL := List.getElem?_eq_getElem (l := l) (i := j) hj2
    obtain ⟨hx35, e26⟩ := L6.2.2 j _ eL
    rw [nI_clamp (by omega), e26]
    have bad : ∀ w, tzR σ w → (∀ u, tzR w u → K u) → ∀ r8 : Int32, ∃ n', zlt n' (some (300 - j)) ∧ cI15 s l K n' r8 (nI j + 1) w := fun w kw dd _ =>
      ⟨300 - (j + 1), by show 300 - (j + 1) < 300 - j; omega, k0.trans kw, j + 1, rfl, nI_1 j, by omega, Or.inr dd⟩
    have cj : nI j = (0 : Int32) ↔ j = 0 := nI_eq (b := 0) (by omega) (by decide)
    rcases hI with ⟨o, u, rfl, ho, hoj, hu, h⟩ | dd
    · have hd : l.drop j = l[j] :: l.drop (j + 1) := List.drop_eq_getElem_cons hj2
      rw [hd] at h
      have h : tOk s (tFin (l.drop (j + 1)) (some (tLabel l[j] u).1) (tNeed (decide (o = none) || decide (o = some (tLabel l[j] u).1)) (tLabel l[j] u).2)) K := h
      refine ty_label hu hx35 (fun ql hl2 => ?_) (fun ql s1 k1 z1 => ?_)
      · have e1 : (tLabel l[j] u).1 = (u.2.1.getD l[j] tf0).2.1 := by unfold tLabel; rw [if_pos ql]
        have e2 : (tLabel l[j] u).2 = u := by unfold tLabel; rw [decide_eq_true ql, tNeed_t]
        rw [e1, e2] at h
        have good : (decide (o = none) || decide (o = some (u.2.1.getD l[j] tf0).2.1)) = true → ∃ n', zlt n' (some (300 - j)) ∧ cI15 s l K n' (nI (tyN (u.2.1.getD l[j] tf0).2.1)) (nI j + 1) σ := by
          intro z
          rw [z, tNeed_t] at h
          exact ⟨300 - (j + 1), by show 300 - (j + 1) < 300 - j; omega, k0, j + 1, rfl, nI_1 j, by omega, Or.inl ⟨some (u.2.1.getD l[j] tf0).2.1, u, rfl, fun k hk => (by cases hk; exact hl2), ⟨fun z => (by cases z), fun z => absurd z (Nat.succ_ne_zero j)⟩, hu, h⟩⟩
        rw [cj]
        have dem : ∀ K' : zS → Prop, K' σ → zCT zZC zmX3_demand [.ref 5, .int (1 : Int32)] σ (zQv K') QX := fun K' z => ty_demand (c := true) hu.1 rfl (fun _ => z) (fun z => absurd z (by decide))
        refine ⟨fun q0 => dem _ (good (by rw [decide_eq_true (hoj.2 q0)]; rfl)), fun q0 => ?_⟩
        obtain ⟨k, hk⟩ : ∃ k, o = some k := by
          cases ho2 : o with
          | none => exact absurd (hoj.1 ho2) q0
          | some k => exact ⟨k, rfl⟩
        have hk2 := ho k hk
        have ce : nI (tyN (u.2.1.getD l[j] tf0).2.1) = nI (tyN (o.getD 2)) ↔ (u.2.1.getD l[j] tf0).2.1 = k := by rw [hk]; exact tyN_3 (by omega) (show k ≤ 3 by omega)
        rw [ce]
        refine ⟨fun q1 => dem _ (good (by rw [hk, q1, decide_eq_true (rfl : some k = some k), Bool.or_true])), fun q1 => ?_⟩
        have hfl : (decide (o = none) || decide (o = some (u.2.1.getD l[j] tf0).2.1)) = false := by
          rw [hk, decide_eq_false (by intro z; cases z), decide_eq_false (fun z => q1 (Option.some.inj z).symm)]
          rfl
        rw [hfl] at h
        refine ty_demand (c := false) hu.1 rfl (fun z => absurd z (by decide)) (fun _ s1 k1 z1 => ?_)
        exact bad s1 k1 (h.dn (tFin_fl (tNeed_f _)) (k0.trans k1) z1) _
      · have e2 : (tLabel l[j] u).2.2.2 = false := by unfold tLabel; rw [decide_eq_false ql]; exact tNeed_f u
        have dd := h.dn (tFin_fl (tNeed_fl e2)) (k0.trans k1) z1
        have e : ∀ w, tzR s1 w → ∀ r8 : Int32, _ := fun w kw r8 => bad w (k1.trans kw) (fun u ku => dd u (kw.trans ku)) r8
        exact ⟨fun _ => zf_X3_demand k1.2 (fun s2 k2 => e s2 k2 _), fun _ => ⟨fun _ => zf_X3_demand k1.2 (fun s2 k2 => e s2 k2 _), fun _ => zf_X3_demand k1.2 (fun s2 k2 => e s2 k2 _)⟩⟩
    · have e : ∀ w, tzR σ w → ∀ r8 : Int32, _ := fun w kw r8 => bad w kw (fun u ku => dd u (kw.trans ku)) r8
      refine zf_X3_labelType k0.2 (fun r s1 k1 => ?_)
      exact ⟨fun _ => zf_X3_demand k1.2 (fun s2 k2 => e s2 (k1.trans k2) _), fun _ => ⟨fun _ => zf_X3_demand k1.2 (fun s2 k2 => e s2 (k1.trans k2) _), fun _ => zf_X3_demand k1.2 (fun s2 k2 => e s2 (k1.trans k2) _)⟩⟩
  · unfold PX7_followTable_0
    refine ty_take hs (n := 0) (by decide) rfl (fun f _ s1 k1 h1 => ?_) (fun f v s1 k1 z1 => ?_)
    · exact ⟨300, trivial, k1, 0, rfl, rfl, Nat.zero_le _, Or.inl ⟨none, _, rfl, fun k hk => (by cases hk), ⟨fun _ => rfl, fun _ => rfl⟩, h1, h⟩⟩
    · exact ⟨300, trivial, k1, 0, rfl, rfl, Nat.zero_le _, Or.inr (h.dn (tFin_fl f) k1 z1)⟩
