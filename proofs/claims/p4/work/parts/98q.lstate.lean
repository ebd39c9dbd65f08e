/-! the worlds behind the constructors -/
def zC0 : zS := (fun c => match c with
  | 0 => fun j => bif Nat.beq j 6 then -1 else 0
  | _ => fun _ => 0, fun _ _ => 0)
def zM0 : zS := (fun c => match c with
  | 0 => fun j => bif Nat.beq j 7 then -1 else 0
  | 1 => fun j => bif Nat.beq j 0 then 16000 else 0
  | _ => fun _ => 0, fun _ _ => 0)
theorem kc_fin {Z : zZ} {G : zG} {σ : zS} {ws : va_W} {H : Heap} {A : Nat → Prop} (hP : va_P G.1 Z.1 ws H) (hD : va_D A ws) (g : Nat → Nat) (hg : ∀ k, k < Z.2.1.length → ws[g k]? = (Z.2.1[k]?).map fun x => (G.2.2 k, zcell G σ k x)) (hi : ∀ i j, i < Z.2.1.length → j < Z.2.1.length → g i = g j → i = j) :
    zHd Z G σ H ∧ (∀ i j : Nat, i < Z.2.1.length → j < Z.2.1.length → G.2.2 i = G.2.2 j → i = j) ∧ ∀ i, i < Z.2.1.length → A (G.2.2 i) := by
  have key : ∀ i, i < Z.2.1.length → ∃ x, Z.2.1[i]? = some x ∧ ws[g i]? = some (G.2.2 i, zcell G σ i x) := fun i h => by
    have h1 := List.getElem?_eq_getElem h
    exact ⟨_, h1, by rw [hg i h, h1]; rfl⟩
  refine ⟨fun k q hk => ?_, fun i j h1 h2 e => ?_, fun i h => ?_⟩
  · obtain ⟨hl, -⟩ := zW_at hk
    obtain ⟨x, hx, hx2⟩ := key k hl
    rw [zW_get hx] at hk
    cases hk
    exact hP _ _ hx2
  · obtain ⟨x, -, hx⟩ := key i h1
    obtain ⟨y, -, hy⟩ := key j h2
    exact hi i j h1 h2 (hD.1 _ _ _ _ hx hy e)
  · obtain ⟨x, -, hx⟩ := key i h
    exact hD.2 _ _ hx
def kc_zip (T : List (Nat × FieldType × Nat)) (qs : List Nat) : List (Nat × Nat × FieldType × Nat) := List.zipWith (fun t q => (t.1, q, t.2.1, t.2.2)) T qs
theorem kc_u : ∀ (u : List (Nat × Nat × FieldType × Nat)) (T : List (Nat × FieldType × Nat)), u.map (fun x => (x.1, x.2.2)) = T → ∃ qs : List Nat, qs.length = T.length ∧ u = kc_zip T qs
  | [], T, h => ⟨[], by rw [← h]; rfl, by rw [← h]; rfl⟩
  | x :: r, T, h => by
    subst h
    obtain ⟨qs, h1, h2⟩ := kc_u r _ rfl
    refine ⟨x.2.1 :: qs, by simp only [List.length_cons, List.map_cons, h1], ?_⟩
    show x :: r = (x.1, x.2.1, x.2.2.1, x.2.2.2) :: kc_zip _ qs
    rw [← h2]
theorem kc_l1 {l : List Nat} (h : l.length = 1) : ∃ a, l = [a] := by
  match l, h with
  | [a], _ => exact ⟨a, rfl⟩
theorem kc_l5 {l : List Nat} (h : l.length = 5) : ∃ a b c d e, l = [a, b, c, d, e] := by
  match l, h with
  | [a, b, c, d, e], _ => exact ⟨a, b, c, d, e, rfl⟩
theorem kc_l8 {l : List Nat} (h : l.length = 8) : ∃ a b c d e f g i, l = [a, b, c, d, e, f, g, i] := by
  match l, h with
  | [a, b, c, d, e, f, g, i], _ => exact ⟨a, b, c, d, e, f, g, i, rfl⟩
theorem ex_Input {dA : FieldType → ClassId} {ci h : Nat} {w : va_W} (hw : kc_arrs dA ci fz_Input tn_Input h w) : ∃ q0 : Nat, w = (h, .inr (ci, modFsL (kc_zip tn_Input [q0]) fz_Input)) :: modLL dA (kc_zip tn_Input [q0]) [] := by
  obtain ⟨u, hu, rfl⟩ := hw
  obtain ⟨qs, h1, rfl⟩ := kc_u u _ hu
  obtain ⟨q0, rfl⟩ := kc_l1 h1
  exact ⟨q0, rfl⟩
theorem ex_Facts {dA : FieldType → ClassId} {ci h : Nat} {w : va_W} (hw : kc_arrs dA ci fz_Facts tn_Facts h w) : ∃ q0 q1 q2 q3 q4 q5 q6 q7 : Nat, w = (h, .inr (ci, modFsL (kc_zip tn_Facts [q0, q1, q2, q3, q4, q5, q6, q7]) fz_Facts)) :: modLL dA (kc_zip tn_Facts [q0, q1, q2, q3, q4, q5, q6, q7]) [] := by
  obtain ⟨u, hu, rfl⟩ := hw
  obtain ⟨qs, h1, rfl⟩ := kc_u u _ hu
  obtain ⟨q0, q1, q2, q3, q4, q5, q6, q7, rfl⟩ := kc_l8 h1
  exact ⟨q0, q1, q2, q3, q4, q5, q6, q7, rfl⟩
theorem ex_Answers {dA : FieldType → ClassId} {ci h : Nat} {w : va_W} (hw : kc_arrs dA ci fz_Answers tn_Answers h w) : ∃ q0 q1 q2 q3 q4 : Nat, w = (h, .inr (ci, modFsL (kc_zip tn_Answers [q0, q1, q2, q3, q4]) fz_Answers)) :: modLL dA (kc_zip tn_Answers [q0, q1, q2, q3, q4]) [] := by
  obtain ⟨u, hu, rfl⟩ := hw
  obtain ⟨qs, h1, rfl⟩ := kc_u u _ hu
  obtain ⟨q0, q1, q2, q3, q4, rfl⟩ := kc_l5 h1
  exact ⟨q0, q1, q2, q3, q4, rfl⟩
theorem ex_Frames {dA : FieldType → ClassId} {ci h : Nat} {w : va_W} (hw : kc_arrs dA ci fz_Frames tn_Frames h w) : ∃ q0 q1 q2 q3 q4 : Nat, w = (h, .inr (ci, modFsL (kc_zip tn_Frames [q0, q1, q2, q3, q4]) fz_Frames)) :: modLL dA (kc_zip tn_Frames [q0, q1, q2, q3, q4]) [] := by
  obtain ⟨u, hu, rfl⟩ := hw
  obtain ⟨qs, h1, rfl⟩ := kc_u u _ hu
  obtain ⟨q0, q1, q2, q3, q4, rfl⟩ := kc_l5 h1
  exact ⟨q0, q1, q2, q3, q4, rfl⟩
theorem ex_Instruction {dA : FieldType → ClassId} {ci h : Nat} {w : va_W} (hw : kc_arrs dA ci fz_Instruction tn_Instruction h w) : ∃ q0 : Nat, w = (h, .inr (ci, modFsL (kc_zip tn_Instruction [q0]) fz_Instruction)) :: modLL dA (kc_zip tn_Instruction [q0]) [] := by
  obtain ⟨u, hu, rfl⟩ := hw
  obtain ⟨qs, h1, rfl⟩ := kc_u u _ hu
  obtain ⟨q0, rfl⟩ := kc_l1 h1
  exact ⟨q0, rfl⟩
def adC (l : List Nat) (tb : Nat → Nat) : Nat → Nat := fun c => bif Nat.blt c 200 then l.getD c 0 else tb c
def gC (k : Nat) : Nat := ([0, 1, 3, 24, 27, 28, 34, 36, 12, 18, 2, 4, 5, 6, 7, 8, 9, 10, 11, 25, 26, 29, 30, 31, 32, 33, 35, 37, 13, 14, 15, 16, 17, 19, 20, 21, 22, 23] : List Nat).getD k 0
theorem gC_inj : ∀ i, i < 38 → ∀ j, j < 38 → gC i = gC j → i = j := by decide +kernel
set_option maxHeartbeats 4000000 in
set_option maxRecDepth 100000 in
theorem lc_state {D : va_G} {dA : FieldType → ClassId} {h0 : Nat} {w : va_W} {A : Nat → Prop} {H : Heap} (hw : pc_Check dA h0 w) (hP : va_P D zclC w H) (hD : va_D A w) (tb : Nat → Nat) : ∃ ad : Nat → Nat, ad 0 = h0 ∧ (∀ k, 200 ≤ k → ad k = tb k) ∧ zHd zZC (D, dA, ad) zC0 H ∧ (∀ i j : Nat, i < 38 → j < 38 → ad i = ad j → i = j) ∧ ∀ i, i < 38 → A (ad i) := by
  obtain ⟨qi, ui, qf, uf, qd, ud, qk, uk, qs, us, hi, hf, hd, hk, hs, rfl⟩ := hw
  obtain ⟨b0, rfl⟩ := ex_Input hi
  obtain ⟨f0, f1, f2, f3, f4, f5, f6, f7, rfl⟩ := ex_Facts hf
  obtain ⟨d0, d1, d2, d3, d4, rfl⟩ := ex_Answers hd
  obtain ⟨k0, k1, k2, k3, k4, rfl⟩ := ex_Answers hk
  obtain ⟨n1, n2, qb, ub, hb, rfl⟩ := hs
  obtain ⟨qr, ur, qn, un, qt, ut, hr, hn, ht, rfl⟩ := hb
  obtain ⟨r0, r1, r2, r3, r4, rfl⟩ := ex_Frames hr
  obtain ⟨l0, rfl⟩ := ex_Instruction hn
  obtain ⟨t0, rfl⟩ := ht
  obtain ⟨h1, h2, h3⟩ := kc_fin (Z := zZC) (G := (D, dA, adC [h0, qi, qf, qs, qb, qr, qn, qt, qd, qk, b0, f0, f1, f2, f3, f4, f5, f6, f7, n1, n2, r0, r1, r2, r3, r4, l0, t0, d0, d1, d2, d3, d4, k0, k1, k2, k3, k4] tb)) (σ := zC0) hP hD gC (fun k hk => by
    have hk : k < 38 := hk
    match k, hk with
    | 0, _ => rfl
    | 1, _ => rfl
    | 2, _ => rfl
    | 3, _ => rfl
    | 4, _ => rfl
    | 5, _ => rfl
    | 6, _ => rfl
    | 7, _ => rfl
    | 8, _ => rfl
    | 9, _ => rfl
    | 10, _ => rfl
    | 11, _ => rfl
    | 12, _ => rfl
    | 13, _ => rfl
    | 14, _ => rfl
    | 15, _ => rfl
    | 16, _ => rfl
    | 17, _ => rfl
    | 18, _ => rfl
    | 19, _ => rfl
    | 20, _ => rfl
    | 21, _ => rfl
    | 22, _ => rfl
    | 23, _ => rfl
    | 24, _ => rfl
    | 25, _ => rfl
    | 26, _ => rfl
    | 27, _ => rfl
    | 28, _ => rfl
    | 29, _ => rfl
    | 30, _ => rfl
    | 31, _ => rfl
    | 32, _ => rfl
    | 33, _ => rfl
    | 34, _ => rfl
    | 35, _ => rfl
    | 36, _ => rfl
    | 37, _ => rfl
    | n + 38, h => exact absurd h (by omega)) (fun i j h1 h2 h => gC_inj i h1 j h2 h)
  refine ⟨_, rfl, fun k hk => ?_, h1, h2, h3⟩
  show (bif Nat.blt k 200 then _ else tb k) = tb k
  rw [show Nat.blt k 200 = false from by
    cases hb : Nat.blt k 200 with
    | false => rfl
    | true => exact absurd (Nat.le_of_ble_eq_true hb : k + 1 ≤ 200) (by omega)]
  rfl
