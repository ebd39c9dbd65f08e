/-! the reference's world behind its constructor -/
theorem mdF : ∀ (T : List (Nat × FieldType × Nat)) (qs : List Nat) (pre : List Value), qs.length = T.length → T.map (fun t => t.1) = List.range' pre.length T.length → modFsL (kc_zip T qs) (pre ++ List.replicate T.length .null) = pre ++ qs.map Value.ref
  | [], qs, pre, h, _ => by
    have e : qs = [] := List.eq_nil_of_length_eq_zero h
    subst e
    rfl
  | _ :: _, [], _, h, _ => by cases h
  | t :: T, q :: qs, pre, h, hk => by
    have hk : t.1 :: T.map (fun t => t.1) = pre.length :: List.range' (pre.length + 1) T.length := hk
    have h1 : t.1 = pre.length := (List.cons.inj hk).1
    have h2 := mdF T qs (pre ++ [.ref q]) (Nat.succ.inj h) (by rw [(List.cons.inj hk).2, List.length_append]; rfl)
    rw [List.append_assoc, List.append_assoc] at h2
    have h3 : (pre ++ List.replicate (T.length + 1) Value.null).set t.1 (.ref q) = pre ++ ([.ref q] ++ List.replicate T.length .null) := by
      rw [h1, List.set_append_right _ _ (Nat.le_refl _), Nat.sub_self]
      rfl
    show modFsL (kc_zip T qs) ((pre ++ List.replicate (T.length + 1) Value.null).set t.1 (.ref q)) = _
    rw [h3]
    exact h2
theorem mdL {dA : FieldType → ClassId} : ∀ (u : List (Nat × Nat × FieldType × Nat)) (L : va_W), modLL dA u L = L ++ u.map (fun x => (x.2.1, .inl (dA x.2.2.1, kc_a0 x.2.2.1 x.2.2.2)))
  | [], L => (List.append_nil L).symm
  | x :: r, L => by
    show modLL dA r (L ++ [(x.2.1, .inl (dA x.2.2.1, kc_a0 x.2.2.1 x.2.2.2))]) = _
    rw [mdL r, List.append_assoc]
    rfl
theorem qs_at {qs : List Nat} {i : Nat} (h : i < qs.length) : qs[i]? = some (qs.getD i 0) := by
  rw [List.getD_eq_getElem?_getD, List.getElem?_eq_getElem h]; rfl
theorem mdM {dA : FieldType → ClassId} {qs : List Nat} (hq : qs.length = 43) {i : Nat} (hi : i < 43) : (modLL dA (kc_zip tn_Module qs) [])[i]? = (tn_Module[i]?).map (fun t => (qs.getD i 0, .inl (dA t.2.1, kc_a0 t.2.1 t.2.2))) := by
  have h2 : tn_Module[i]? = some tn_Module[i] := List.getElem?_eq_getElem (show i < 43 from hi)
  rw [mdL, List.nil_append, List.getElem?_map, kc_zip, List.getElem?_zipWith, qs_at (qs := qs) (by omega), h2]
  rfl
theorem mdM_len {dA : FieldType → ClassId} {qs : List Nat} (hq : qs.length = 43) : (modLL dA (kc_zip tn_Module qs) []).length = 43 := by
  rw [mdL, List.nil_append, List.length_map, kc_zip, List.length_zipWith, hq]
  rfl
def modKs (off : Nat) : List zK := List.replicate 14 (0, 0) ++ (List.range 43).map (fun i => (2, off + i))
theorem mdC {ad : Nat → Nat} {σ : zS} {c off : Nat} {n : Int32} {qs : List Nat} (hq : qs.length = 43) (had : ∀ i, i < 43 → ad (off + i) = qs.getD i 0) (h0 : σ.1 c 0 = n) (h1 : ∀ j, 0 < j → j < 14 → σ.1 c j = 0) :
    ((modKs off).mapIdx fun j k => zv ad (zsl σ c j k)) = (List.replicate 14 (Value.int 0) ++ qs.map Value.ref).set 0 (.int n) := by
  apply List.ext_getElem?
  intro j
  by_cases hj : j < 14
  · have e : (modKs off)[j]? = some (0, 0) := by
      unfold modKs
      rw [List.getElem?_append_left (by rw [List.length_replicate]; exact hj), List.getElem?_replicate, if_pos hj]
    rw [List.getElem?_mapIdx, e]
    show some (Value.int (σ.1 c j)) = _
    by_cases h : j = 0
    · subst h
      rw [h0]
      rfl
    · rw [h1 j (by omega) hj, List.getElem?_set_ne (by omega), List.getElem?_append_left (by rw [List.length_replicate]; exact hj), List.getElem?_replicate, if_pos hj]
  · have e : (modKs off)[j]? = ((List.range 43)[j - 14]?).map (fun i => (2, off + i)) := by
      unfold modKs
      rw [List.getElem?_append_right (by rw [List.length_replicate]; omega), List.length_replicate, List.getElem?_map]
    rw [List.getElem?_mapIdx, e, List.getElem?_set_ne (by omega), List.getElem?_append_right (by rw [List.length_replicate]; omega), List.length_replicate, List.getElem?_map]
    by_cases h : j - 14 < 43
    · rw [List.getElem?_range h, qs_at (qs := qs) (by omega)]
      show some (Value.ref (ad (off + (j - 14)))) = some (Value.ref (qs.getD (j - 14) 0))
      rw [had _ h]
    · rw [List.getElem?_eq_none (by rw [List.length_range]; omega), List.getElem?_eq_none (by omega)]
      rfl
theorem zM0_1 : ∀ j, j < 14 → 0 < j → zM0.1 1 j = 0 := by decide +kernel
def thisKs : List zK := [(2, 2), (2, 1), (0, 0), (2, 4), (2, 5), (0, 0), (0, 0), (0, 0), (0, 0), (2, 3), (0, 0), (0, 0), (0, 0), (0, 0), (0, 0), (0, 0), (1, 0), (1, 0), (0, 0), (1, 0), (2, 6), (2, 7), (0, 0), (2, 8), (2, 9), (2, 10), (2, 11), (2, 12), (0, 0), (2, 13), (0, 0), (0, 0)]
theorem thisCell {ad : Nat → Nat} : (thisKs.mapIdx fun j k => zv ad (zsl zM0 0 j k)) = [.ref (ad 2), .ref (ad 1), .int 0, .ref (ad 4), .ref (ad 5), .int 0, .int 0, .int (-1), .int 0, .ref (ad 3), .int 0, .int 0, .int 0, .int 0, .int 0, .int 0, .long 0, .long 0, .int 0, .long 0, .ref (ad 6), .ref (ad 7), .int 0, .ref (ad 8), .ref (ad 9), .ref (ad 10), .ref (ad 11), .ref (ad 12), .int 0, .ref (ad 13), .int 0, .int 0] := by
  rw [List.mapIdx_eq_zipIdx_map]
  rfl
theorem thisKs0 : zZM.2.1[0]? = some (.inl (0, thisKs)) := rfl
theorem modKs1 : zZM.2.1[1]? = some (.inl (1, modKs 14)) := rfl
theorem modKs2 : zZM.2.1[2]? = some (.inl (1, modKs 57)) := rfl
theorem zYd0 : zYM.drop 14 = tn_Module.map (fun t => (Sum.inr (t.2.1, t.2.2) : zC)) ++ tn_Module.map (fun t => (Sum.inr (t.2.1, t.2.2) : zC)) := rfl
theorem zY1 (i : Nat) (hi : i < 43) : zYM[i + 14]? = (tn_Module[i]?).map (fun t => (Sum.inr (t.2.1, t.2.2) : zC)) := by
  have h : (zYM.drop 14)[i]? = zYM[14 + i]? := List.getElem?_drop
  rw [Nat.add_comm, ← h, zYd0, List.getElem?_append_left (by rw [List.length_map]; exact hi), List.getElem?_map]
theorem zY2 (i : Nat) (hi : i < 43) : zYM[i + 57]? = (tn_Module[i]?).map (fun t => (Sum.inr (t.2.1, t.2.2) : zC)) := by
  have h : (zYM.drop 14)[i + 43]? = zYM[14 + (i + 43)]? := List.getElem?_drop
  rw [show i + 57 = 14 + (i + 43) by omega, ← h, zYd0, List.getElem?_append_right (by rw [List.length_map]; show 43 ≤ i + 43; omega), List.length_map, List.getElem?_map]
  show (tn_Module[i + 43 - 43]?).map _ = _
  rw [Nat.add_sub_cancel]
theorem kc_zc {G : zG} {σ : zS} {c N : Nat} {ty : FieldType} (h1 : σ.1 c = fun _ => 0) (h2 : σ.2 c = fun _ => 0) : zcell G σ c (.inr (ty, N)) = .inl (G.2.1 ty, kc_a0 ty N) := by
  cases ty <;> simp only [zcell, kc_a0, h1, h2]
theorem kc_pos {α : Type} {a b x : α} {M0 M1 T : List α} (h0 : M0.length = 43) (h1 : M1.length = 43) :
    (∀ i, i < 43 → (a :: b :: (M0 ++ x :: (M1 ++ T)))[i + 2]? = M0[i]?) ∧ (a :: b :: (M0 ++ x :: (M1 ++ T)))[45]? = some x ∧ (∀ i, i < 43 → (a :: b :: (M0 ++ x :: (M1 ++ T)))[i + 46]? = M1[i]?) ∧ ∀ i, (a :: b :: (M0 ++ x :: (M1 ++ T)))[i + 89]? = T[i]? := by
  refine ⟨fun i hi => ?_, ?_, fun i hi => ?_, fun i => ?_⟩
  · show (M0 ++ x :: (M1 ++ T))[i]? = _
    rw [List.getElem?_append_left (by omega)]
  · show (M0 ++ x :: (M1 ++ T))[43]? = _
    rw [List.getElem?_append_right (by omega), h0]
    rfl
  · show (M0 ++ x :: (M1 ++ T))[i + 44]? = _
    rw [List.getElem?_append_right (by omega), show i + 44 - M0.length = i + 1 by omega]
    show (M1 ++ T)[i]? = _
    rw [List.getElem?_append_left (by omega)]
  · show (M0 ++ x :: (M1 ++ T))[i + 87]? = _
    rw [List.getElem?_append_right (by omega), show i + 87 - M0.length = i + 43 + 1 by omega]
    show (M1 ++ T)[i + 43]? = _
    rw [List.getElem?_append_right (by omega), show i + 43 - M1.length = i by omega]
def adM (l q1 q0 : List Nat) (tb : Nat → Nat) : Nat → Nat := fun c => bif Nat.blt c 14 then l.getD c 0 else bif Nat.blt c 57 then q1.getD (c - 14) 0 else bif Nat.blt c 100 then q0.getD (c - 57) 0 else tb c
theorem blt_f {a b : Nat} (h : b ≤ a) : Nat.blt a b = false := by
  cases hb : Nat.blt a b with
  | false => rfl
  | true => exact absurd (Nat.le_of_ble_eq_true hb : a + 1 ≤ b) (by omega)
theorem blt_t {a b : Nat} (h : a < b) : Nat.blt a b = true := Nat.ble_eq_true_of_le h
theorem adM1 {l q1 q0 : List Nat} {tb : Nat → Nat} {i : Nat} (h : i < 43) : adM l q1 q0 tb (i + 14) = q1.getD i 0 := by
  unfold adM
  rw [blt_f (a := i + 14) (b := 14) (by omega), blt_t (a := i + 14) (b := 57) (by omega), Nat.add_sub_cancel]
  rfl
theorem adM2 {l q1 q0 : List Nat} {tb : Nat → Nat} {i : Nat} (h : i < 43) : adM l q1 q0 tb (i + 57) = q0.getD i 0 := by
  unfold adM
  rw [blt_f (a := i + 57) (b := 14) (by omega), blt_f (a := i + 57) (b := 57) (by omega), blt_t (a := i + 57) (b := 100) (by omega), Nat.add_sub_cancel]
  rfl
theorem adM3 {l q1 q0 : List Nat} {tb : Nat → Nat} {i : Nat} (h : 100 ≤ i) : adM l q1 q0 tb i = tb i := by
  unfold adM
  rw [blt_f (a := i) (b := 14) (by omega), blt_f (a := i) (b := 57) (by omega), blt_f (a := i) (b := 100) (by omega)]
  rfl
def gM (k : Nat) : Nat := bif Nat.blt k 14 then ([0, 45, 1, 91, 89, 90, 92, 93, 94, 95, 96, 97, 98, 99] : List Nat).getD k 0 else bif Nat.blt k 57 then k + 32 else k - 55
theorem gM_inj : ∀ i, i < 100 → ∀ j, j < 100 → gM i = gM j → i = j := by decide +kernel
theorem gM1 : ∀ i, i < 43 → gM (i + 14) = i + 46 := by decide +kernel
theorem gM2 : ∀ i, i < 43 → gM (i + 57) = i + 2 := by decide +kernel
set_option maxHeartbeats 400000 in
set_option maxRecDepth 100000 in
theorem lm_state {D : va_G} {dA : FieldType → ClassId} {h0 : Nat} {w : va_W} {A : Nat → Prop} {H : Heap} (hw : pc_Model dA h0 w) (hP : va_P D zclM w H) (hD : va_D A w) (tb : Nat → Nat) : ∃ ad : Nat → Nat, ad 0 = h0 ∧ (∀ k, 100 ≤ k → ad k = tb k) ∧ zHd zZM (D, dA, ad) zM0 H ∧ (∀ i j : Nat, i < 100 → j < 100 → ad i = ad j → i = j) ∧ ∀ i, i < 100 → A (ad i) := by
  obtain ⟨q0, u0, q1, u1, q3, q4, q9, q20, q21, q23, q24, q25, q26, q27, q29, e0, e1, rfl⟩ := hw
  obtain ⟨s0, l0, rfl⟩ := kc_u u0 _ e0
  obtain ⟨s1, l1, rfl⟩ := kc_u u1 _ e1
  have l0 : s0.length = 43 := l0
  have l1 : s1.length = 43 := l1
  have f0 : modFsL (kc_zip tn_Module s0) fz_Module = List.replicate 14 (.int 0) ++ s0.map Value.ref := mdF tn_Module s0 (List.replicate 14 (.int 0)) l0 rfl
  have f1 : modFsL (kc_zip tn_Module s1) fz_Module = List.replicate 14 (.int 0) ++ s1.map Value.ref := mdF tn_Module s1 (List.replicate 14 (.int 0)) l1 rfl
  rw [f0, f1] at hP hD
  have m0 : ∀ i, i < 43 → (modLL dA (kc_zip tn_Module s0) [])[i]? = _ := fun i hi => mdM (dA := dA) l0 hi
  have m1 : ∀ i, i < 43 → (modLL dA (kc_zip tn_Module s1) [])[i]? = _ := fun i hi => mdM (dA := dA) l1 hi
  have n0 := mdM_len (dA := dA) l0
  have n1 := mdM_len (dA := dA) l1
  generalize modLL dA (kc_zip tn_Module s0) [] = M0 at hP hD m0 n0
  generalize modLL dA (kc_zip tn_Module s1) [] = M1 at hP hD m1 n1
  generalize hl : ([h0, q1, q0, q9, q3, q4, q20, q21, q23, q24, q25, q26, q27, q29] : List Nat) = l
  have had1 : ∀ i, i < 43 → adM l s1 s0 tb (14 + i) = s1.getD i 0 := fun i hi => by rw [Nat.add_comm]; exact adM1 hi
  have had2 : ∀ i, i < 43 → adM l s1 s0 tb (57 + i) = s0.getD i 0 := fun i hi => by rw [Nat.add_comm]; exact adM2 hi
  obtain ⟨h1, h2, h3⟩ := kc_fin (Z := zZM) (G := (D, dA, adM l s1 s0 tb)) (σ := zM0) hP hD gM (fun k hk => by
    have hk : k < 100 := hk
    obtain ⟨pA, pB, pC, pD⟩ := kc_pos (a := (h0, _)) (b := (q0, _)) (x := (q1, _)) (T := [(q3, _), (q4, _), (q9, _), (q20, _), (q21, _), (q23, _), (q24, _), (q25, _), (q26, _), (q27, _), (q29, _)]) n0 n1
    by_cases k1 : k < 14
    · subst hl
      match k, k1 with
      | 0, _ =>
        rw [thisKs0]
        show _ = some (h0, Sum.inr (0, thisKs.mapIdx fun j k => zv (adM _ s1 s0 tb) (zsl zM0 0 j k)))
        rw [thisCell]
        rfl
      | 1, _ =>
        refine pB.trans ?_
        rw [modKs1]
        show _ = some (q1, Sum.inr (1, (modKs 14).mapIdx fun j k => zv (adM _ s1 s0 tb) (zsl zM0 1 j k)))
        rw [mdC (σ := zM0) (c := 1) (n := 16000) l1 (fun i hi => by rw [Nat.add_comm]; exact adM1 hi) rfl (fun j h1 h2 => zM0_1 j h2 h1)]
      | 2, _ =>
        show some _ = _
        rw [modKs2]
        show _ = some (q0, Sum.inr (1, (modKs 57).mapIdx fun j k => zv (adM _ s1 s0 tb) (zsl zM0 2 j k)))
        rw [mdC (σ := zM0) (c := 2) (n := 0) l0 (fun i hi => by rw [Nat.add_comm]; exact adM2 hi) rfl (fun _ _ _ => rfl)]
      | 3, _ => exact (pD 2).trans rfl
      | 4, _ => exact (pD 0).trans rfl
      | 5, _ => exact (pD 1).trans rfl
      | 6, _ => exact (pD 3).trans rfl
      | 7, _ => exact (pD 4).trans rfl
      | 8, _ => exact (pD 5).trans rfl
      | 9, _ => exact (pD 6).trans rfl
      | 10, _ => exact (pD 7).trans rfl
      | 11, _ => exact (pD 8).trans rfl
      | 12, _ => exact (pD 9).trans rfl
      | 13, _ => exact (pD 10).trans rfl
      | n + 14, h => exact absurd h (by omega)
    · by_cases k2 : k < 57
      · obtain ⟨i, rfl⟩ : ∃ i, k = i + 14 := ⟨k - 14, by omega⟩
        have hi : i < 43 := by omega
        rw [gM1 i hi, pC i hi, m1 i hi, show zZM.2.1[i + 14]? = _ from zY1 i hi]
        cases ht : tn_Module[i]? with
        | none => rfl
        | some t =>
          show some (s1.getD i 0, _) = some (adM l s1 s0 tb (i + 14), _)
          rw [adM1 hi, kc_zc rfl rfl]
      · obtain ⟨i, rfl⟩ : ∃ i, k = i + 57 := ⟨k - 57, by omega⟩
        have hi : i < 43 := by omega
        rw [gM2 i hi, pA i hi, m0 i hi, show zZM.2.1[i + 57]? = _ from zY2 i hi]
        cases ht : tn_Module[i]? with
        | none => rfl
        | some t =>
          show some (s0.getD i 0, _) = some (adM l s1 s0 tb (i + 57), _)
          rw [adM2 hi, kc_zc rfl rfl]) (fun i j h1 h2 h => gM_inj i h1 j h2 h)
  subst hl
  exact ⟨_, rfl, fun k hk => adM3 hk, h1, h2, h3⟩
/-- the reference's state at the start -/
theorem zM0_inv : zInv zM0 ([], 0, -1, none) := by
  refine ⟨16000, 0, Or.inr ⟨rfl, rfl⟩, rfl, rfl, ⟨rfl, Nat.zero_le _, fun j hj => absurd hj (Nat.not_lt_zero _)⟩, fun x hx => absurd hx List.not_mem_nil, rfl, Nat.zero_le _, rfl, ⟨fun _ => 0, fun j _ => ⟨by show (0 : Nat) < 256; decide, ?_⟩⟩, rfl⟩
  show (0 : Int32) = sb_b 0
  decide
