/-! the law's loop: both objects hold the same -/
set_option maxHeartbeats 400000 in
theorem ls_loop {p : Program} {e : Env} {s : State} {m : MethodId} {below : List Frame} {meth : Method} {c : Code} {l : Launch} {b L : Nat} {xs : Nat → Int32} (hL : L ≤ 3072) (C0 : lw_At p s m meth c b L xs) : ∀ (n i : Nat), L + 6 ≤ i + 6 * n → i ≤ L + 6 → ∀ (σC σM : zS) (S : qS) (GC GM : zG) (H : Heap) (locs : List Loc) (ls : Array Slot), lwEnv s GC GM → zHd zZC GC σC H → zHd zZM GM σM H → va_S (lwA s) s.heap H locs → lv_has ls 4 [(0, .ref b), (1, .ref (GC.2.2 0)), (2, .ref (GM.2.2 0)), (3, .int (nI i))] → cZ σC S → zInv σM S → W p l e room_1 s m #[Value.ref b] below meth c H locs 138 150552 (lw_Z below #[Value.ref b] s) (F0 m 18 ls []) := by
  intro n
  have hLb : L < 2 ^ 20 := by omega
  induction n with
  | zero =>
    intro i hn hi σC σM S GC GM H locs ls E hHC hHM hS hl hZ hI
    exact law_head hLb C0 (i := i) (by omega) hS hl (fun _ => law_exit C0 hS) (fun z => absurd z (by omega))
  | succ n ih =>
    intro i hn hiL σC σM S GC GM H locs ls E hHC hHM hS hl hZ hI
    refine law_head hLb C0 (i := i) (by omega) hS hl (fun _ => law_exit C0 hS) (fun hi k hk ek => ?_)
    have fin : ∀ (S2 : qS) (σC' σM' : zS) (GM' : zG) (H' : Heap) (locs' : List Loc), (GM' = GM ∨ GM' = zGsw GM) → cZ σC' S2 → zInv σM' S2 → zHd zZC GC σC' H' → zHd zZM GM' σM' H' → va_S (lwA s) s.heap H' locs' → W p l e room_1 s m #[Value.ref b] below meth c H' locs' 138 150552 (lw_Z below #[Value.ref b] s) (F0 m 294 ls []) := by
      intro S2 σC' σM' GM' H' locs' hG hZ' hI' hC' hM' hS'
      refine law_next C0 hl (fun ls' hl' => ?_)
      refine ih (i + 6) (by omega) (by omega) σC' σM' S2 GC GM' H' locs' ls' ?_ hC' hM' hS' ?_ hZ' hI'
      · rcases hG with rfl | rfl
        · exact E
        · exact lwEnv_sw E
      · rcases hG with rfl | rfl
        · exact hl'
        · exact hl'
    match k, hk with
    | 0, _ => exact law_0 hLb C0 hi E hHC hHM hS hl (fun s => cZ s (qFeed S (xs (i + 1)) (xs (i + 2)) (xs (i + 3)) (xs (i + 4)) (xs (i + 5))).2) (fun s => zInv s (qFeed S (xs (i + 1)) (xs (i + 2)) (xs (i + 3)) (xs (i + 4)) (xs (i + 5))).2) (sc_feedZ hZ (fun _ h => h)) (sp_feed hI (fun _ h => h)) (fin (qFeed S (xs (i + 1)) (xs (i + 2)) (xs (i + 3)) (xs (i + 4)) (xs (i + 5))).2)
    | 1, _ => exact law_1 hLb C0 hi E hHC hHM hS hl (fun s => cZ s (qEnd S (xs (i + 1))).2) (fun s => zInv s (qEnd S (xs (i + 1))).2) (sc_endZ hZ (fun _ h => h)) (sp_end hI (fun _ h => h)) (fin (qEnd S (xs (i + 1))).2)
    | 2, _ => exact law_2 hLb C0 hi E hHC hHM hS hl (qCheck S).1 (fun s => cZ s (qCheck S).2) (fun s => zInv s (qCheck S).2) (sc_check hZ (fun _ h => ⟨rfl, h⟩)) (sp_check sp_orderOf hI (fun _ h => ⟨rfl, h⟩) (fun _ h => ⟨rfl, h⟩)) (fin (qCheck S).2)
    | 3, _ => exact law_3 hLb C0 hi E hHC hHM hS hl (fun s => cZ s S) (fun s => zInv s S) (sc_place hZ) (sp_place hI hI) (fin S)
    | 4, _ => exact law_4 hLb C0 hi E hHC hHM hS hl (fun s => cZ s S) (fun s => zInv s S) (sc_count hZ hZ) (sp_count hI hI) (fin S)
    | 5, _ => exact law_5 hLb C0 hi E hHC hHM hS hl (fun s => cZ s S) (fun s => zInv s S) (sc_instr hZ hZ) (sp_instructions hI (fun _ h => h)) (fin S)
    | 6, _ => exact law_6 hLb C0 hi E hHC hHM hS hl (fun s => cZ s S) (fun s => zInv s S) (sc_code hZ hZ) (sp_code hI (fun _ h => h)) (fin S)
    | 7, _ => exact law_7 hLb C0 hi E hHC hHM hS hl (fun s => cZ s S) (fun s => zInv s S) (sc_locals hZ hZ) (sp_locals hI (fun _ h => h)) (fin S)
    | n + 8, h => exact absurd h (by omega)
theorem whole_start {p : Program} {e : Env} {s : State} {m : MethodId} {below : List Frame} {meth : Method} {c : Code} (l : Launch) (hflags : l.flags = flags0) {b L : Nat} {xs : Nat → Int32} (hL : L ≤ 3072) (C0 : lw_At p s m meth c b L xs) : W p l e room_1 s m #[Value.ref b] below meth c s.heap [] 0 0 (lw_Z below #[Value.ref b] s) (entryFrame m ([Value.ref b] : List Value).toArray 4) := by
  refine lw_begin l hflags C0 (fun GC GM H ls E hHC hHM hS hl => ?_)
  exact ls_loop hL C0 (L + 1) 0 (by omega) (by omega) zC0 zM0 ([], 0, -1, none) GC GM H [] ls E hHC hHM hS hl zC0_Z zM0_inv
