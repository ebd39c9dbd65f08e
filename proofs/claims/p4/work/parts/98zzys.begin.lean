/-! from the law's entry to its loop -/
def tbC (t0 t1 t2 t3 t4 : Nat) : Nat → Nat := fun k => bif Nat.beq k 200 then t0 else bif Nat.beq k 201 then t1 else bif Nat.beq k 202 then t2 else bif Nat.beq k 203 then t3 else t4
def tbM (t0 t1 t2 : Nat) : Nat → Nat := fun k => bif Nat.beq k 100 then t0 else bif Nat.beq k 101 then t1 else t2
theorem kc_blindM {D : va_G} {dA : FieldType → ClassId} {h0 sz : Nat} : FrameBlind (va_Pc [.ref h0] (fun U => U.heap.size = sz ∧ va_P D zclM [(h0, .inr (0, fz_Model))] U.heap ∧ va_K D zclM (zT dA) U ∧ va_D (fun _ => True) [(h0, .inr (0, fz_Model))] ∧ (∀ w ∈ zNW, va_Nw w U) ∧ (∀ w ∈ iseB, va_Nw w U) ∧ vx_Zq Bundle.tN "UNASSIGNED_STACK" Bundle.steD (va_A [(h0, .inr (0, fz_Model))] sz) U U.heap ∧ vx_Zq Bundle.tN "SUPPRESSED_SENTINEL" Bundle.listD (va_A [(h0, .inr (0, fz_Model))] sz) U U.heap)) :=
  fun a U g mk q => ⟨q.1, q.2.1, q.2.2.1, va_K.moved (u := U) (U := U.calling g mk a) (Vm.Alike.refl U.vm) q.2.2.2.1, q.2.2.2.2.1, fun w hw => va_Nw.same (zNest_tab (List.mem_filter.mp hw).2) (show U.vm = (U.calling g mk a).vm from rfl) (q.2.2.2.2.2.1 w hw), iseB_same (show U.vm = (U.calling g mk a).vm from rfl) q.2.2.2.2.2.2.1, vx_Zq.moved (u := U) (U := U.calling g mk a) (Vm.Alike.refl U.vm) q.2.2.2.2.2.2.2.1, vx_Zq.moved (u := U) (U := U.calling g mk a) (Vm.Alike.refl U.vm) q.2.2.2.2.2.2.2.2⟩
theorem kc_P1 {D : va_G} {cl : List vw_C} {x : Nat × va_E} {H : Heap} (h : va_P D cl ([] ++ [x]) H) : va_P D cl [x] H := h
theorem kc_D1 {x : Nat × va_E} : va_D (fun _ => True) [x] := ⟨fun i j a b h1 h2 _ => by rw [(kc_one h1).1, (kc_one h2).1], fun _ _ _ => trivial⟩
set_option maxHeartbeats 2000000 in
set_option maxRecDepth 100000 in
theorem lw_begin {p : Program} {e : Env} {s : State} {m : MethodId} {below : List Frame} {meth : Method} {c : Code} (l : Launch) (hflags : l.flags = flags0) {b L : Nat} {xs : Nat → Int32} {Q : State → Prop} (C0 : lw_At p s m meth c b L xs)
    (kk : ∀ (GC GM : zG) (H : Heap) (ls : Array Slot), lwEnv s GC GM → zHd zZC GC zC0 H → zHd zZM GM zM0 H → va_S (lwA s) s.heap H [] → lv_has ls 4 [(0, .ref b), (1, .ref (GC.2.2 0)), (2, .ref (GM.2.2 0)), (3, .int (nI 0))] → W p l e room_1 s m #[Value.ref b] below meth c H [] 138 150552 Q (F0 m 18 ls [])) :
    W p l e room_1 s m #[Value.ref b] below meth c s.heap [] 0 0 Q (entryFrame m ([Value.ref b] : List Value).toArray 4) := by
  obtain ⟨hx, hb, hr, hml, hown, hts, hX, hbl, hlocks, hgv⟩ := id C0
  have hst : l.stackTraces = false := by
    unfold Launch.stackTraces
    rw [hflags]
    decide +kernel
  obtain ⟨dA, hdA⟩ := le_dA hts
  obtain ⟨DC, hDC⟩ := le_clC hts
  obtain ⟨DM, hDM⟩ := le_clM hts
  have hKC : va_K DC zclC (zT dA) s := ⟨hDC, hdA⟩
  have hKM : va_K DM zclM (zT dA) s := ⟨hDM, hdA⟩
  have hA0 : ∀ a : Nat, a < s.heap.size → ¬ lwA s a := fun a h => Nat.not_le.mpr h
  obtain ⟨t0, t1, t2, t3, t4, hC0⟩ := le_C (A := lwA s) hts hgv hA0
  obtain ⟨u0, u1, u2, hM0⟩ := le_M (A := lwA s) hts hgv hA0
  obtain ⟨hZ1, hZ2, hB9, hNW⟩ := le_X (A := lwA s) hts hgv hA0
  have hl := lv_entry ([.ref b]) (n := 4) (Nat.le_of_ble_eq_true rfl)
  rw [lg_entry_eq]
  generalize (lg_sl ([.ref b]) ++ List.replicate (4 - (lg_sl ([.ref b])).length) Slot.unset).toArray = ls at hl ⊢
  have hl : lv_has ls 4 [(0, .ref b)] := hl
  have hS : va_S (lwA s) s.heap s.heap [] := va_S.rf
  -- the class's object
  refine va_new (ci := 0) (fs := fz_Check) (C := RX8) (T := TX8) (N := 7) hx hb hts (fun w h => lwIn (zwX8 w h)) tyX8 tyX8_ok hown (hts _ (lwIn (zWS1 22 rfl rfl))) (hts _ (lwIn (zWS1 23 rfl rfl))) (hts _ (lwIn iniX8)) hKC (ws := []) (fun k q h => by cases h) ⟨fun i j p q h => (by cases h), fun k q h => (by cases h)⟩ hS (fun _ h => h) rfl fz_Check_ok (Nat.le_of_ble_eq_true rfl) (Nat.le_of_ble_eq_true rfl) dl_0 (fun q H hP hD hS => ?_)
  refine lv_dup hx hb dl_3 rfl ?_
  have hFc : ∀ x, va_A [(q, .inr (0, fz_Check))] H.size x → lwA s x := by
    rintro x (⟨k, e2, h⟩ | h)
    · have h4 : x = q := (Prod.mk.inj (kc_one h).2).1
      rw [h4]; exact hD.2 0 _ rfl
    · exact Nat.le_trans hS.1 h
  refine va_callv (va_runI (As := []) (rest := [.ref q]) ⟨hx, hb, hml, hown, hts⟩ (c_Check l DC dA q H.size) (cwI 0 hts (lw_good (zWS1 26 rfl rfl)) rfl rfl rfl (hts _ (lwIn iniX8)) (hts _ (lwIn (zWS1 24 rfl rfl))) (hts _ (lwIn (zWS1 25 rfl rfl))) rfl (by decide +kernel) ⟨(Nat.le_of_ble_eq_true rfl), (Nat.le_of_ble_eq_true rfl)⟩) ⟨kc_blind, fun U hU hW => ⟨rfl, by rw [hU], by rw [hU]; exact kc_P1 hP, va_K.moved hW.alike hKC, kc_D1, fun w hw => zNest_warm (List.mem_filter.mp hw).2 hW (hNW w hw)⟩⟩ rfl rfl hl.1 rfl (lv_room (Nat.le_of_ble_eq_true rfl)) dl_4 ⟨(Nat.le_of_ble_eq_true rfl), (Nat.le_of_ble_eq_true rfl)⟩) hS (fun x _ h => hFc x h) hFc (fun w t H1 locs ht hvm hw hB hz1 hk1 hS => ?_)
  obtain ⟨hP1, hD1⟩ := hB
  rw [ht] at hP1
  obtain ⟨adC, a0, aT, hHC, hiC, hAC⟩ := lc_state hw hP1 hD1 (tbC t0 t1 t2 t3 t4)
  have hgC : ∀ i, i < 38 → s.heap.size ≤ adC i := fun i hi => hFc _ (hAC i hi)
  have hzC : ∀ i, i < 38 → adC i < H1.size := fun i hi => by
    obtain ⟨x, hx⟩ : ∃ x, zZC.2.1[i]? = some x := ⟨_, List.getElem?_eq_getElem hi⟩
    exact (hHC i _ (zW_get hx)).lt
  refine lv_astore_n (lv' := [(1, .ref q), (0, .ref b)]) hx hb dl_7 rfl hl (by decide) rfl (fun ls hl => ?_)
  refine va_forget (fun x hx => hS.2.2 x hx) ?_
  have hsz1 : s.heap.size ≤ H1.size := hS.1
  have hk01 : ∀ x : Nat, x < s.heap.size → H1[x]? = s.heap[x]? := fun x h => hS.2.1 x h (hA0 x h)
  clear hk1 hz1 hP1 hD1 hS hP hD
  -- the reference's object
  have hS2 : va_S (fun q : Nat => H1.size ≤ q) H1 H1 [] := va_S.rf
  refine va_new (ci := 0) (fs := fz_Model) (C := RX10) (T := TX10) (N := 32) hx hb hts (fun w h => lwIn (zwX10 w h)) tyX10 tyX10_ok hown (hts _ (lwIn (zWS4 110 rfl rfl))) (hts _ (lwIn (zWS4 111 rfl rfl))) (hts _ (lwIn iniX10)) hKM (ws := []) (fun k q h => by cases h) ⟨fun i j p q h => (by cases h), fun k q h => (by cases h)⟩ hS2 (fun _ h => h) rfl fz_Model_ok (Nat.le_of_ble_eq_true rfl) (Nat.le_of_ble_eq_true rfl) dl_8 (fun q2 H2 hP2 hD2 hS2 => ?_)
  refine lv_dup hx hb dl_11 rfl ?_
  have hFm : ∀ x, va_A [(q2, .inr (0, fz_Model))] H2.size x → H1.size ≤ x := by
    rintro x (⟨k, e2, h⟩ | h)
    · have h4 : x = q2 := (Prod.mk.inj (kc_one h).2).1
      rw [h4]; exact hD2.2 0 _ rfl
    · exact Nat.le_trans hS2.1 h
  have hk02 : ∀ x : Nat, x < s.heap.size → ¬ lwA s x → H2[x]? = s.heap[x]? := fun x h _ => (hS2.2.1 x (Nat.lt_of_lt_of_le h hsz1) (Nat.not_le.mpr (Nat.lt_of_lt_of_le h hsz1))).trans (hk01 x h)
  have hFl : ∀ x, va_A [(q2, .inr (0, fz_Model))] H2.size x → lwA s x := fun x h => Nat.le_trans hsz1 (hFm x h)
  refine va_callv (va_runI (As := []) (rest := [.ref q2]) ⟨hx, hb, hml, hown, hts⟩ (c_Model l hst DM dA q2 H2.size) (cwI 0 hts (lw_good (zWS4 114 rfl rfl)) rfl rfl rfl (hts _ (lwIn iniX10)) (hts _ (lwIn (zWS4 112 rfl rfl))) (hts _ (lwIn (zWS4 113 rfl rfl))) rfl (by decide +kernel) ⟨(Nat.le_of_ble_eq_true rfl), (Nat.le_of_ble_eq_true rfl)⟩) ⟨kc_blindM, fun U hU hW => ⟨rfl, by rw [hU], by rw [hU]; exact kc_P1 hP2, va_K.moved hW.alike hKM, kc_D1, fun w hw => zNest_warm (List.mem_filter.mp hw).2 hW (hNW w hw), iseB_warm hW hB9, by rw [hU]; exact ((vx_Zq.moved hW.alike hZ1).kept hk02).narrow hFl, by rw [hU]; exact ((vx_Zq.moved hW.alike hZ2).kept hk02).narrow hFl⟩⟩ rfl rfl hl.1 rfl (lv_room (Nat.le_of_ble_eq_true rfl)) dl_12 ⟨(Nat.le_of_ble_eq_true rfl), (Nat.le_of_ble_eq_true rfl)⟩) hS2 (fun x _ h => hFm x h) hFm (fun w2 t H3 locs ht hvm hw2 hB hz1 hk1 hS3 => ?_)
  obtain ⟨hP3, hD3⟩ := hB
  rw [ht] at hP3
  obtain ⟨adM, m0, mT, hHM, hiM, hAM⟩ := lm_state hw2 hP3 hD3 (tbM u0 u1 u2)
  have hgM : ∀ i, i < 100 → H1.size ≤ adM i := fun i hi => hFm _ (hAM i hi)
  have hHC3 : zHd zZC (DC, dA, adC) zC0 H3 := va_P.kept hHC (fun k x h => hS3.2.1 x.1 ((hHC k x h).lt) (Nat.not_le.mpr ((hHC k x h).lt)))
  refine lv_astore_n (lv' := [(2, .ref q2), (1, .ref q), (0, .ref b)]) hx hb dl_15 rfl hl (by decide) rfl (fun ls hl => ?_)
  refine lv_iconst hx hb (n := 0) (v := 0) dl_16 (by decide) ?_
  refine lv_istore_n (lv' := [(3, .int 0), (2, .ref q2), (1, .ref q), (0, .ref b)]) hx hb dl_17 rfl hl (by decide) rfl (fun ls hl => ?_)
  refine va_forget (fun x hx => Nat.le_trans hsz1 (hS3.2.2 x hx)) ?_
  have hS4 : va_S (lwA s) s.heap H3 [] := ⟨Nat.le_trans hsz1 hS3.1, fun x h1 _ => (hS3.2.1 x (Nat.lt_of_lt_of_le h1 hsz1) (Nat.not_le.mpr (Nat.lt_of_lt_of_le h1 hsz1))).trans (hk01 x h1), fun _ h => by cases h⟩
  have eC : zEnv zZC (DC, dA, adC) s := ⟨hKC, hiC, hNW, zexC_narrow (A := lwA s) (fun x hx => by obtain ⟨i, hi, rfl⟩ := hx; exact hgC i hi) (hC0 (DC, dA, adC) (aT 200 (by decide)) (aT 201 (by decide)) (aT 202 (by decide)) (aT 203 (by decide)) (aT 204 (by decide)))⟩
  have eM : zEnv zZM (DM, dA, adM) s := ⟨hKM, hiM, hNW, zexM_narrow (A := lwA s) (fun x hx => by obtain ⟨i, hi, rfl⟩ := hx; exact Nat.le_trans hsz1 (hgM i hi)) (hM0 (DM, dA, adM) (mT 100 (by decide)) (mT 101 (by decide)) (mT 102 (by decide)))⟩
  refine kk (DC, dA, adC) (DM, dA, adM) H3 ls ⟨eC, eM, hgC, fun j hj => Nat.le_trans hsz1 (hgM j hj), fun i j hi hj e => ?_⟩ hHC3 hHM hS4 ?_
  · have h1 : adC i < H1.size := hzC i hi
    have h2 : H1.size ≤ adM j := hgM j hj
    have h3 : adC i = adM j := e
    omega
  · have hl2 := lv_sub hl (l' := [(0, .ref b), (1, .ref q), (2, .ref q2), (3, .int 0)]) [3, 2, 1, 0] rfl
    rw [← a0, ← m0] at hl2
    exact hl2
