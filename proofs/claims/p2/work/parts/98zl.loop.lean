/-! the law's loop: the tray and the bytes fed on both sides -/
def cJ (σ : zS) (S : qS) : Prop := cT σ S.1 ∧ (∀ x ∈ S.1, x < 256) ∧ σ.1 0 5 = nI S.2.1 ∧ S.2.1 ≤ 65536 ∧ sV σ
theorem sV_F {σ s : zS} (h : sV σ) (k : cFK σ s) : sV s := by
  obtain ⟨v1, v2, v3, v4, v5, v6, v8, v7⟩ := h
  have g : ∀ c i, ¬ c = 10 → ¬ c = 1 → ¬ c = 0 → s.1 c i = σ.1 c i := fun c i a1 a2 a3 => (k c i a1 (fun z => a2 z.1) (fun z => a3 z.1)).1
  refine ⟨?_, ?_, ?_, ?_, ?_, ?_, ?_, fun i => ?_⟩
  · rw [g _ _ (by decide) (by decide) (by decide)]; exact v1
  · rw [g _ _ (by decide) (by decide) (by decide)]; exact v2
  · rw [g _ _ (by decide) (by decide) (by decide)]; exact v3
  · rw [g _ _ (by decide) (by decide) (by decide)]; exact v4
  · rw [g _ _ (by decide) (by decide) (by decide)]; exact v5
  · rw [g _ _ (by decide) (by decide) (by decide)]; exact v6
  · rw [g _ _ (by decide) (by decide) (by decide)]; exact v8
  · rw [g _ _ (by decide) (by decide) (by decide)]; exact v7 i
theorem qCheck_t (S : qS) : (qCheck S).2.1 = [] ∧ (qCheck S).2.2.1 = S.2.1 := by
  unfold qCheck
  cases qRead S.1 <;> exact ⟨rfl, rfl⟩
theorem cJ_check {σ s : zS} {S : qS} (h : cJ σ S) (h1 : s.1 1 1 = 0) (h5 : s.1 0 5 = σ.1 0 5) (hv : sV s) : cJ s (qCheck S).2 := by
  have e := qCheck_t S
  refine ⟨?_, ?_, ?_, ?_, hv⟩
  · rw [e.1]; exact ⟨h1, Nat.zero_le _, fun j hj => absurd hj (Nat.not_lt_zero _)⟩
  · rw [e.1]; exact fun x hx => absurd hx List.not_mem_nil
  · rw [e.2, h5]; exact h.2.2.1
  · rw [e.2]; exact h.2.2.2.1
theorem zC0_v : sV zC0 := ⟨by decide, by decide, by decide, Or.inl rfl, by decide, by decide, by decide, fun _ => rfl⟩
theorem zC0_J : cJ zC0 ([], 0, -1, none) := ⟨⟨rfl, Nat.zero_le _, fun j hj => absurd hj (Nat.not_lt_zero _)⟩, fun x hx => absurd hx List.not_mem_nil, rfl, Nat.zero_le _, zC0_v⟩
set_option maxHeartbeats 400000 in
theorem ls_loop {p : Program} {e : Env} {s : State} {m : MethodId} {below : List Frame} {meth : Method} {c : Code} {l : Launch} {b L : Nat} {xs : Nat → Int32} (hL : L ≤ 3072) (C0 : lw_At p s m meth c b L xs) : ∀ (n i : Nat), L + 6 ≤ i + 6 * n → i ≤ L + 6 → ∀ (σC σM : zS) (S : qS) (GC GM : zG) (H : Heap) (locs : List Loc) (ls : Array Slot), lwEnv s GC GM → zHd zZC GC σC H → zHd zZM GM σM H → va_S (lwA s) s.heap H locs → lv_has ls 4 [(0, .ref b), (1, .ref (GC.2.2 0)), (2, .ref (GM.2.2 0)), (3, .int (nI i))] → cJ σC S → zInv σM S → W p l e room_1 s m #[Value.ref b] below meth c H locs 138 150552 (lw_Z below #[Value.ref b] s) (F0 m 18 ls []) := by
  intro n
  have hLb : L < 2 ^ 20 := by omega
  induction n with
  | zero =>
    intro i hn hi σC σM S GC GM H locs ls E hHC hHM hS hl hJ hI
    exact law_head hLb C0 (i := i) (by omega) hS hl (fun _ => law_exit C0 hS) (fun z => absurd z (by omega))
  | succ n ih =>
    intro i hn hiL σC σM S GC GM H locs ls E hHC hHM hS hl hJ hI
    refine law_head hLb C0 (i := i) (by omega) hS hl (fun _ => law_exit C0 hS) (fun hi k hk ek => ?_)
    have fin : ∀ (S2 : qS) (σC' σM' : zS) (GM' : zG) (H' : Heap) (locs' : List Loc), (GM' = GM ∨ GM' = zGsw GM) → cJ σC' S2 → zInv σM' S2 → zHd zZC GC σC' H' → zHd zZM GM' σM' H' → va_S (lwA s) s.heap H' locs' → W p l e room_1 s m #[Value.ref b] below meth c H' locs' 138 150552 (lw_Z below #[Value.ref b] s) (F0 m 294 ls []) := by
      intro S2 σC' σM' GM' H' locs' hG hJ' hI' hC' hM' hS'
      refine law_next C0 hl (fun ls' hl' => ?_)
      refine ih (i + 6) (by omega) (by omega) σC' σM' S2 GC GM' H' locs' ls' ?_ hC' hM' hS' ?_ hJ' hI'
      · rcases hG with rfl | rfl
        · exact E
        · exact lwEnv_sw E
      · rcases hG with rfl | rfl
        · exact hl'
        · exact hl'
    match k, hk with
    | 0, _ => exact law_0 hLb C0 hi E hHC hHM hS hl (qFeed S (xs (i + 1)) (xs (i + 2)) (xs (i + 3)) (xs (i + 4)) (xs (i + 5))).1 (fun s => cJ s (qFeed S (xs (i + 1)) (xs (i + 2)) (xs (i + 3)) (xs (i + 4)) (xs (i + 5))).2) (fun s => zInv s (qFeed S (xs (i + 1)) (xs (i + 2)) (xs (i + 3)) (xs (i + 4)) (xs (i + 5))).2) (sc_feed hJ.1 hJ.2.1 hJ.2.2.1 hJ.2.2.2.1 (fun s' h1 h2 h3 h4 _ h5 => ⟨rfl, ⟨h1, h2, h3, h4, sV_F hJ.2.2.2.2 h5⟩⟩)) (sp_feed hI (fun _ h => ⟨rfl, h⟩)) (fin (qFeed S (xs (i + 1)) (xs (i + 2)) (xs (i + 3)) (xs (i + 4)) (xs (i + 5))).2)
    | 1, _ => exact law_1 hLb C0 hi E hHC hHM hS hl (fun s => cJ s (qEnd S (xs (i + 1))).2) (fun s => zInv s (qEnd S (xs (i + 1))).2) (sc_end hJ.1 hJ.2.1 (fun s' h1 h2 h3 h5 h6 => ⟨h1, h2, by rw [h6, h3]; exact hJ.2.2.1, by rw [h3]; exact hJ.2.2.2.1, sV_F hJ.2.2.2.2 h5⟩)) (sp_end hI (fun _ h => h)) (fin (qEnd S (xs (i + 1))).2)
    | 2, _ => exact law_2 hLb C0 hi E hHC hHM hS hl (fun s => cJ s (qCheck S).2) (fun s => zInv s (qCheck S).2) (sf_check hJ.2.2.2.2 (fun r s' h1 h5 hv => cJ_check hJ h1 h5 hv)) (sp_check sp_orderOf hI (fun _ h => h) (fun _ h => h)) (fin (qCheck S).2)
    | 3, _ => exact law_3 hLb C0 hi E hHC hHM hS hl (fun s => cJ s S) (fun s => zInv s S) (sc_place hJ) (sp_place hI hI) (fin S)
    | 4, _ => exact law_4 hLb C0 hi E hHC hHM hS hl (fun s => cJ s S) (fun s => zInv s S) (sf_count (fun _ => hJ)) (sp_count hI hI) (fin S)
    | 5, _ => exact law_5 hLb C0 hi E hHC hHM hS hl (fun s => cJ s S) (fun s => zInv s S) (sf_instructions (fun _ => hJ)) (sp_instructions hI (fun _ h => h)) (fin S)
    | 6, _ => exact law_6 hLb C0 hi E hHC hHM hS hl (fun s => cJ s S) (fun s => zInv s S) (sf_code (fun _ => hJ)) (sp_code hI (fun _ h => h)) (fin S)
    | 7, _ => exact law_7 hLb C0 hi E hHC hHM hS hl (fun s => cJ s S) (fun s => zInv s S) (sf_locals (fun _ => hJ)) (sp_locals hI (fun _ h => h)) (fin S)
    | n + 8, h => exact absurd h (by omega)
theorem whole_start {p : Program} {e : Env} {s : State} {m : MethodId} {below : List Frame} {meth : Method} {c : Code} (l : Launch) (hflags : l.flags = flags0) {b L : Nat} {xs : Nat → Int32} (hL : L ≤ 3072) (C0 : lw_At p s m meth c b L xs) : W p l e room_1 s m #[Value.ref b] below meth c s.heap [] 0 0 (lw_Z below #[Value.ref b] s) (entryFrame m ([Value.ref b] : List Value).toArray 4) := by
  refine lw_begin l hflags C0 (fun GC GM H ls E hHC hHM hS hl => ?_)
  exact ls_loop hL C0 (L + 1) 0 (by omega) (by omega) zC0 zM0 ([], 0, -1, none) GC GM H [] ls E hHC hHM hS hl zC0_J zM0_inv
