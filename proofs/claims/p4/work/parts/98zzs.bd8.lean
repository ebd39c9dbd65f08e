/-! a body: what its typing looks at but its own locals and result -/
def tE.at (E : tE) (lc : List Nat) (g : Nat) : tE := (E.L, E.S, E.G, lc, g, E.nt, E.nm, E.ne, E.nd)
def tEB (s : zS) (E : tE) : Prop := fnR s E.S.length E.L ∧ sgR s E.S ∧ glR s E.G ∧ (s.1 2 10 = nI E.nt ∧ E.nt < 2 ^ 30) ∧ (s.1 2 11 = nI E.nm ∧ E.nm < 2 ^ 30) ∧ (s.1 18 9 = nI E.ne ∧ E.ne < 2 ^ 30) ∧ (s.2 2 14 = optL E.nd ∧ ∀ m, E.nd = some m → m < 2 ^ 35) ∧ s.1 18 1 = nI E.S.length
theorem tEB_g {l : List Nat} {σ s : zS} {E : tE} (h : gF l σ s) (hn : ∀ k ∈ [1, 2, 3, 4, 5, 6, 8], ¬ k ∈ l) (r : tEB σ E) : tEB s E := by
  obtain ⟨r1, r2, r3, r6, r7, r8, r9, r10⟩ := r
  have g : ∀ k, k ∈ [1, 2, 3, 4, 5, 6, 8] → gQ k σ s := fun k hk => h.g (hn k hk)
  refine ⟨fnR_q (g 2 (by decide)) r1, sgR_q (g 1 (by decide)) r2, glR_q (g 3 (by decide)) r3, ⟨?_, r6.2⟩, ⟨?_, r7.2⟩, ⟨?_, r8.2⟩, ⟨?_, r9.2⟩, ?_⟩
  · rw [(g 4 (by decide) 2 10 rfl).1]; exact r6.1
  · rw [(g 5 (by decide) 2 11 rfl).1]; exact r7.1
  · rw [(g 8 (by decide) 18 9 rfl).1]; exact r8.1
  · rw [(g 6 (by decide) 2 14 rfl).2]; exact r9.1
  · rw [(g 8 (by decide) 18 1 rfl).1]; exact r10
theorem tEB.at {s : zS} {E : tE} {lc : List Nat} {g : Nat} (r : tEB s E) (hl : lcR s lc) (h : s.1 22 0 = nI (tyN g)) (hg : g ≤ 2) : tER s (E.at lc g) := by
  obtain ⟨r1, r2, r3, r6, r7, r8, r9, r10⟩ := r
  exact ⟨r1, r2, r3, hl, ⟨h, hg⟩, r6, r7, r8, r9, r10⟩
/-- the typing over a body's instructions: right so far, and the types -/
def cGo (E : tE) (p : Bool × tT) (x : mInsT) : Bool × tT := (p.1 && (cStep E x.1 x.2.1 x.2.2 p.2).2.2, tTurn x.1 x.2.1 (cStep E x.1 x.2.1 x.2.2 p.2))
def cFold (E : tE) (l : List (Nat × mInsT)) (p : Bool × tT) : Bool × tT := l.foldl (fun p x => cGo E p x.2) p
theorem cFold_app {E : tE} {l : List (Nat × mInsT)} {x : Nat × mInsT} {p : Bool × tT} : cFold E (l ++ [x]) p = cGo E (cFold E l p) x.2 := List.foldl_append
theorem tTurn_fl (x r : Nat) (t : tT) : (tTurn x r t).2.2 = t.2.2 := by
  unfold tTurn
  by_cases q : 2 ≤ x ∧ x ≤ 4
  · rw [if_pos q, tFrame_fl]
  rw [if_neg q]
  by_cases q : x = 5
  · rw [if_pos q, tElse_fl]
  rw [if_neg q]
  by_cases q : x = 11
  · rw [if_pos q, tPop_fl]
  rw [if_neg q]
def cds (l : List (Nat × mInsT)) : List Nat := l.map (fun q => q.2.1)
theorem cds_app {l : List (Nat × mInsT)} {x : Nat × mInsT} : cds (l ++ [x]) = cds l ++ [x.2.1] := List.map_append
/-- behind a body's instructions c -/
def bdP (s : zS) (b : Nat → Nat) (e eo i : Nat) (C : List Nat) (E : tE) (p0 : Bool × tT) (c : List (Nat × mInsT)) (s' : zS) : Prop := gF [0, 7, 11, 12, 13, 14, 15] s s' ∧ cSt s' b eo e ∧ C.length + c.length ≤ e ∧ cdR s' (C ++ cds c) ∧ (∀ j, j < 64 → s'.1 29 j = (if j = i then nI C.length else s.1 29 j) ∧ s'.1 30 j = (if j = i then nI (cds c).length else s.1 30 j) ∧ s'.1 31 j = (if j = i then nI E.lc.length else s.1 31 j)) ∧ (∃ k, s'.2 6 4 = lN k) ∧ s'.1 4 6 = bI (cFold E c p0).1 ∧ (wr s' ↔ wr s ∨ (p0.1 = true ∧ (cFold E c p0).1 = false))
def bdI (s : zS) (b : Nat → Nat) (e eo i : Nat) (C : List Nat) (E : tE) (p0 : Bool × tT) (K : zS → Prop) (m : Nat) (x1 x2 x4 : Int32) (σ : zS) : Prop :=
  (∃ o lst p fu, m + p = e + 10 ∧ x1 = nI i ∧ x2 = nI eo ∧ x4 = nI lst.length ∧ C.length + lst.length + 2 ≤ p ∧ e + 1 ≤ fu + p ∧ gF [0, 7, 11, 12, 13, 14, 15] s σ ∧ cSt σ b e p ∧ owAft σ o ∧ cdR σ (C ++ cds lst) ∧ (∀ j, j < 64 → σ.1 29 j = (if j = i then nI C.length else s.1 29 j) ∧ σ.1 30 j = s.1 30 j ∧ σ.1 31 j = (if j = i then nI E.lc.length else s.1 31 j)) ∧ (∃ k, σ.2 6 4 = lN k) ∧ σ.1 4 6 = bI (cFold E lst p0).1 ∧ tER σ E ∧ ((cFold E lst p0).1 = true → tyAft σ o (cFold E lst p0).2 ∧ (cFold E lst p0).2.2.2 = true ∧ (cFold E lst p0).2.1.length ≤ lst.length) ∧ (wr σ ↔ wr s ∨ (p0.1 = true ∧ (cFold E lst p0).1 = false)) ∧ mW (mCn b e E.nd.isSome fu o lst p) (fun c => mW (if c.2 < e then .error (1, c.2) else .ok c.2 : mE Nat) (fun _ => ∀ s', bdP s b e eo i C E p0 c.1 s' → K s') (cEv s K)) (cEv s K)) ∨ (∃ kk p, m = 0 ∧ cEr σ kk p ∧ sQ s σ ∧ cEv s K kk p)
theorem cds_len {l : List (Nat × mInsT)} : (cds l).length = l.length := List.length_map _
theorem cFold_off {E : tE} : ∀ {l : List (Nat × mInsT)} {p : Bool × tT}, p.1 = false → (cFold E l p).1 = false := by
  intro l
  induction l with
  | nil => intro p h; exact h
  | cons x r ih =>
    intro p h
    refine ih (p := cGo E p x.2) ?_
    show (p.1 && _) = false
    rw [h]; rfl
theorem rd_bodyLoop {s : zS} {b : Nat → Nat} {e eo i : Nat} {C : List Nat} {E : tE} {p0 : Bool × tT} {K : zS → Prop} {QX : zS → Prop} {J : Nat → Int32 → Int32 → Int32 → zS → Prop} (hJ : ∀ n y1 y2 y4 τ, bdI s b e eo i C E p0 K n y1 y2 y4 τ → J n y1 y2 y4 τ) (hi : i < 2 ^ 31) (heo : e ≤ eo ∧ eo ≤ 16000) (m : Nat) (x1 x2 x4 : Int32) (σ : zS) (h : bdI s b e eo i C E p0 K m x1 x2 x4 σ) : PX1_readBody_65 (fun y1 y2 y4 τ => ∃ n', zlt n' (some m) ∧ J n' y1 y2 y4 τ) (zQv K) QX x1 x2 x4 σ := by
  rcases h with ⟨o, lst, p, fu, hm, rfl, rfl, rfl, hlen, hfu, g, hs, hoA, hcd, h29, hk, hfl, hER, hty, hwr, hw⟩ | ⟨kk, p, rfl, her, q, hE⟩
  · have hp := hs.2.2.2.2.2.1
    have he := hs.2.1
    unfold PX1_readBody_65
    refine ⟨fun z => absurd ((nI_leI (a := 16000) (by decide) (by omega)).1 z) (by omega), fun _ => ⟨fun z => ?_, fun z => ⟨fun _ => ?_, fun z2 => absurd hs.2.2.1 z2⟩⟩⟩
    · cases o with
      | some ow =>
        exfalso
        have h1 : σ.1 5 5 = nI ow.length := hoA.1
        rw [h1] at z
        exact nI_pos (by have := hoA.2.2; omega) z
      | none =>
        have hw : mW (if p < e then .error (1, p) else .ok p : mE Nat) (fun _ => ∀ s', bdP s b e eo i C E p0 lst s' → K s') (cEv s K) := hw
        refine rd_endBody hs.v hi (fun s1 g1 v1 q1 e85 q30 => ?_)
        have hs1 := g1.st (by decide) (by decide) v1 hs
        have qq : sQ s s1 := (g.q (by decide)).trans (g1.q (by decide))
        have hw2 : mW (if p < e then .error (1, p) else .ok p : mE Nat) (fun r => ∀ s', fK s1 s' → cSt s' b eo r → zQv K none s') (cEv s1 (fun s' => zQv K none s')) := by
          refine mW_mono hw (fun r hr hwK s' k' hs' => ?_) (fun k q hq h2 => h2.to qq)
          have er : r = p ∧ p = e := by
            by_cases q2 : p < e
            · rw [if_pos q2] at hr; cases hr
            · rw [if_neg q2] at hr; cases hr; exact ⟨rfl, by omega⟩
          obtain ⟨rfl, rfl⟩ := er
          have gk := k'.g
          have g1' : gF [0, 7, 11, 12, 13, 14, 15] s s' := (g.trans (g1.mono (by decide))).trans (gk.mono (by decide))
          refine hwK s' ⟨g1', hs', by omega, cdR_q (gk.g (by decide)) ⟨by rw [e85]; exact hcd.1, hcd.2.1, fun j x hj => by rw [(q1 j).1]; exact hcd.2.2 j x hj⟩, fun j hj => ⟨?_, ?_, ?_⟩, ?_, ?_, ?_⟩
          · rw [(gk.g (k := 12) (by decide) 29 j rfl).1, (q1 j).2.1]; exact (h29 j hj).1
          · rw [(gk.g (k := 12) (by decide) 30 j rfl).1, q30 j hj]
            by_cases q2 : j = i
            · rw [if_pos q2, if_pos q2, hcd.1, (h29 i (by omega)).1, if_pos rfl]
              rw [List.length_append, ← nI_add, Int32.add_comm, Int32.add_sub_cancel]
            · rw [if_neg q2, if_neg q2]; exact (h29 j hj).2.1
          · rw [(gk.g (k := 12) (by decide) 31 j rfl).1, (q1 j).2.2]; exact (h29 j hj).2.2
          · obtain ⟨k, k1⟩ := hk
            exact ⟨k, by rw [(gk.g (k := 14) (by decide) 6 4 rfl).2, (g1.g (k := 14) (by decide) 6 4 rfl).2]; exact k1⟩
          · rw [(gk.g (k := 11) (by decide) 4 6 rfl).1, (g1.g (k := 11) (by decide) 4 6 rfl).1]; exact hfl
          · rw [wr_q (gk.g (k := 7) (by decide)), wr_q (g1.g (k := 7) (by decide))]; exact hwr
        exact rd_leave hs1 rfl heo hw2
    · cases o with
      | none =>
        exfalso
        have h1 : σ.1 5 5 = nI 0 - (1 : Int32) := hoA
        rw [h1] at z
        exact z (by decide)
      | some ow =>
        obtain ⟨o1, o2, o3⟩ := hoA
        obtain ⟨k, k1⟩ := hk
        obtain ⟨f', rfl⟩ : ∃ f', fu = f' + 1 := ⟨fu - 1, by omega⟩
        have hb : ∀ j, j < e → b j < 256 := fun j hj => (hs.1 j (by omega)).1
        have hw : mW (mCode b e E.nd.isSome (f' + 1) ow lst p) (fun c => mW (if c.2 < e then .error (1, c.2) else .ok c.2 : mE Nat) (fun _ => ∀ s', bdP s b e eo i C E p0 c.1 s' → K s') (cEv s K)) (cEv s K) := hw
        rw [mCodeN hb, mW_bind] at hw
        have hlc : (C ++ cds lst).length = C.length + lst.length := by rw [List.length_append, cds_len]
        obtain ⟨r1, r2, r3, r4, r5, r6, r7, r8, r9, r10⟩ := id hER
        refine rd_readInstruction hs o1 o2 o3 r9.1 r9.2 hcd (by omega) k1 hfl (t := (cFold E lst p0).2) (E := E) (fun ff => ?_) (mW_mono hw (fun r hr hw s5 g5 hs5 z22 oA cA q29 k5 f5 ty5 w5 => ?_) (fun kk q hq h2 s5 her q5 => ⟨0, by show 0 < m; omega, hJ _ _ _ _ _ (Or.inr ⟨kk, q, rfl, her, (g.q (by decide)).trans q5, h2⟩)⟩))
        · obtain ⟨y1, y2, y3⟩ := hty ff
          exact ⟨hER, y1.1, y2, y1.2, by omega⟩
        · obtain ⟨hin1, hin2⟩ := mIs_in hb hr
          have ef : cFold E (lst ++ [(p, r.1)]) p0 = cGo E (cFold E lst p0) r.1 := cFold_app
          have g' : gF [0, 7, 11, 12, 13, 14, 15] s s5 := g.trans (g5.mono (by decide))
          refine ⟨m - (r.2 - p), by show m - (r.2 - p) < m; omega, hJ _ _ _ _ _ (Or.inl ⟨mNx r.1.1 ow, lst ++ [(p, r.1)], r.2, f', by omega, rfl, rfl, by rw [nI_1]; simp, by rw [List.length_append]; show C.length + (lst.length + 1) + 2 ≤ r.2; omega, by omega, g', hs5, oA, by rw [cds_app, ← List.append_assoc]; exact cA, fun j hj => ?_, k5, by rw [ef]; exact f5, tER_g g5 (by decide) z22 hER, fun ff => ?_, ?_, hw⟩)⟩
          · rw [(q29 j).1, (q29 j).2.1, (q29 j).2.2]; exact h29 j hj
          · rw [ef] at ff ⊢
            have ff : ((cFold E lst p0).1 && (cStep E r.1.1 r.1.2.1 r.1.2.2 (cFold E lst p0).2).2.2) = true := ff
            rw [Bool.and_eq_true] at ff
            obtain ⟨y1, y2, y3⟩ := hty ff.1
            refine ⟨ty5 ff.1 ff.2, ?_, ?_⟩
            · show (tTurn _ _ _).2.2 = true
              rw [tTurn_fl]; exact ff.2
            · show (tTurn _ _ _).1.length ≤ _
              have := len_c E r.1.1 r.1.2.1 r.1.2.1 r.1.2.2 (cFold E lst p0).2
              rw [List.length_append]
              show _ ≤ lst.length + 1
              omega
          · rw [ef, w5, hwr]
            show _ ↔ wr s ∨ (p0.1 = true ∧ ((cFold E lst p0).1 && (cStep E r.1.1 r.1.2.1 r.1.2.2 (cFold E lst p0).2).2.2) = false)
            cases hp0 : p0.1 with
            | false => rw [cFold_off hp0]; simp
            | true =>
              cases (cFold E lst p0).1 with
              | false => simp
              | true => simp
  · unfold PX1_readBody_65
    have out : zCT zZC zmX0_endBody [.ref 8, .int x1] σ (zQv (fun s1 => zCT zZC zmX4_leave [.ref 1, .int x2] s1 (zQv (fun s2 => zQv K none s2)) QX)) QX := sf_X0_endBody her.v (fun s1 k1 => er_X1_readBody_65_0 k1.2 (fun z kz => hE.go q her z (k1.trans kz)))
    exact ⟨fun _ => out, fun _ => ⟨fun _ => out, fun _ => ⟨fun z => absurd z her.bad, fun _ => out⟩⟩⟩
