/-! p1: one call on a new object -/
theorem zC0_b : ∀ j, zC0.1 10 j = 0 := fun _ => rfl
theorem zC0_t : cT zC0 [] := ⟨rfl, Nat.zero_le _, fun j hj => absurd hj (Nat.not_lt_zero _)⟩
theorem q0_check : (qCheck (([], 0, -1, none) : qS)).1 = 1 := rfl
theorem whole_start {p : Program} {e : Env} {s : State} {m : MethodId} {below : List Frame} {meth : Method} {c : Code} (l : Launch) (hflags : l.flags = flags0) {b L : Nat} {xs : Nat → Int32} (hL : L ≤ 6) (C0 : lw_At p s m meth c b L xs) : W p l e room_1 s m #[Value.ref b] below meth c s.heap [] 0 0 (lw_Z below #[Value.ref b] s) (entryFrame m ([Value.ref b] : List Value).toArray 4) := by
  have hLb : L < 2 ^ 20 := by omega
  refine lw_begin l hflags C0 (fun GC GM H ls E hHC hHM hS hl => ?_)
  refine law_head hLb C0 (i := 0) (by decide) hS hl (fun _ => law_exit C0 hS) (fun hi k hk ek => ?_)
  have fin : ∀ (σC' σM' : zS) (GM' : zG) (H' : Heap) (locs' : List Loc), (GM' = GM ∨ GM' = zGsw GM) → True → True → zHd zZC GC σC' H' → zHd zZM GM' σM' H' → va_S (lwA s) s.heap H' locs' → W p l e room_1 s m #[Value.ref b] below meth c H' locs' 138 150552 (lw_Z below #[Value.ref b] s) (F0 m 294 ls []) := by
    intro σC' σM' GM' H' locs' _ _ _ _ _ hS'
    refine law_next C0 hl (fun ls' hl' => ?_)
    exact law_head hLb C0 (i := 0 + 6) (by decide) hS' hl' (fun _ => law_exit C0 hS') (fun hi2 => absurd hi2 (by omega))
  match k, hk with
  | 0, _ => exact law_0 hLb C0 hi E hHC hHM hS hl (qFeed ([], 0, -1, none) (xs (0 + 1)) (xs (0 + 2)) (xs (0 + 3)) (xs (0 + 4)) (xs (0 + 5))).1 (fun _ => True) (fun _ => True) (sc_feed (S := ([], 0, -1, none)) zC0_t (fun x hx => absurd hx List.not_mem_nil) rfl (Nat.zero_le _) (fun s' _ _ _ _ _ _ => ⟨rfl, trivial⟩)) (sp_feed zM0_inv (fun s' _ => ⟨rfl, trivial⟩)) fin
  | 1, _ => exact law_1 hLb C0 hi E hHC hHM hS hl (qEnd ([], 0, -1, none) (xs (0 + 1))).1 (fun _ => True) (fun _ => True) (sc_end (S := ([], 0, -1, none)) zC0_t (fun x hx => absurd hx List.not_mem_nil) (fun s' _ _ _ _ _ => ⟨rfl, trivial⟩)) (sp_end zM0_inv (fun s' _ => ⟨rfl, trivial⟩)) fin
  | 2, _ => exact law_2 hLb C0 hi E hHC hHM hS hl 1 (fun _ => True) (fun _ => True) (sc_check0 rfl (fun j _ => rfl) (fun s' => ⟨rfl, trivial⟩)) (sp_check sp_orderOf zM0_inv (fun s' _ => ⟨q0_check, trivial⟩) (fun s' _ => ⟨q0_check, trivial⟩)) fin
  | 3, _ => exact law_3 hLb C0 hi E hHC hHM hS hl (-1) (fun _ => True) (fun _ => True) (sc_place ⟨rfl, trivial⟩) (sp_place zM0_inv ⟨rfl, trivial⟩) fin
  | 4, _ => exact law_4 hLb C0 hi E hHC hHM hS hl (-1) (fun _ => True) (fun _ => True) (sc_count0 rfl ⟨rfl, trivial⟩) (sp_count zM0_inv ⟨rfl, trivial⟩) fin
  | 5, _ => exact law_5 hLb C0 hi E hHC hHM hS hl (-1) (fun _ => True) (fun _ => True) (sc_instr0 rfl ⟨rfl, trivial⟩) (sp_instructions zM0_inv (fun s' _ => ⟨rfl, trivial⟩)) fin
  | 6, _ => exact law_6 hLb C0 hi E hHC hHM hS hl (-1) (fun _ => True) (fun _ => True) (sc_code0 rfl ⟨rfl, trivial⟩) (sp_code zM0_inv (fun s' _ => ⟨rfl, trivial⟩)) fin
  | 7, _ => exact law_7 hLb C0 hi E hHC hHM hS hl (-1) (fun _ => True) (fun _ => True) (sc_locals0 rfl ⟨rfl, trivial⟩) (sp_locals zM0_inv (fun s' _ => ⟨rfl, trivial⟩)) fin
  | n + 8, h => exact absurd h (by omega)
