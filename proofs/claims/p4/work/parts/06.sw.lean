/-! switches as operations: keys by groups, each group with its place -/
def zin (x : Int32) : List Int32 → Prop
  | [] => False
  | [a] => x = a
  | a :: r => x = a ∨ zin x r
theorem zin_iff (x : Int32) (l : List Int32) : zin x l ↔ ∃ a, a ∈ l ∧ x = a := by
  induction l with
  | nil => exact ⟨fun h => h.elim, fun ⟨a, h, _⟩ => by cases h⟩
  | cons a r ih =>
    cases r with
    | nil => exact ⟨fun h => ⟨a, List.mem_cons_self, h⟩, fun ⟨b, h, e⟩ => by
        rcases List.mem_cons.mp h with q | q
        · rw [e, q]; exact rfl
        · cases q⟩
    | cons b r =>
      show (x = a ∨ zin x (b :: r)) ↔ _
      rw [ih]
      constructor
      · rintro (h | ⟨c, h, e⟩)
        · exact ⟨a, List.mem_cons_self, h⟩
        · exact ⟨c, List.mem_cons_of_mem _ h, e⟩
      · rintro ⟨c, h, e⟩
        rcases List.mem_cons.mp h with q | q
        · exact Or.inl (by rw [e, q])
        · exact Or.inr ⟨c, q, e⟩
def zsw : List (List Int32 × Nat) → Nat → Int32 → (Nat → Prop) → Prop
  | [], d, _, k => k d
  | c :: cs, d, x, k => (zin x c.1 → k c.2) ∧ (¬ zin x c.1 → zsw cs d x k)
theorem zsw_elim {cs : List (List Int32 × Nat)} {d : Nat} {x : Int32} {k : Nat → Prop} (h : zsw cs d x k) : (∃ c, c ∈ cs ∧ ∃ a, a ∈ c.1 ∧ x = a ∧ k c.2) ∨ ((∀ c, c ∈ cs → ∀ a, a ∈ c.1 → ¬ x = a) ∧ k d) := by
  induction cs with
  | nil => exact Or.inr ⟨fun c hc => by (cases hc), h⟩
  | cons c cs ih =>
    by_cases hz : zin x c.1
    · obtain ⟨a, ha, e⟩ := (zin_iff x c.1).mp hz
      exact Or.inl ⟨c, List.mem_cons_self, a, ha, e, h.1 hz⟩
    · rcases ih (h.2 hz) with ⟨c', hc, r⟩ | ⟨h1, h2⟩
      · exact Or.inl ⟨c', List.mem_cons_of_mem _ hc, r⟩
      · refine Or.inr ⟨fun c' hc a ha e => ?_, h2⟩
        rcases List.mem_cons.mp hc with q | q
        · subst q
          exact hz ((zin_iff x _).mpr ⟨a, ha, e⟩)
        · exact h1 c' q a ha e
def o_sw (cs : List (List Int32 × Nat)) (d : Nat) : zOp := fun _ _ tr ls st σ => match st with
  | .int x :: r => zsw cs d x (fun t => tr t ls r σ)
  | _ => False
section ZSWS
variable {Z : zZ} {M : zM} {pc : Nat}
theorem s_tsw {dflt lo hi : Int} {offs : Array Int} {len d : Nat} {cs : List (List Int32 × Nat)} (hd : decode M.2.1 pc = .ok (.tableswitch dflt lo hi offs, len))
    (hdf : (pc : Int) + dflt = (d : Int))
    (h1 : ∀ c ∈ cs, ∀ a ∈ c.1, ¬ a.toInt < lo ∧ ¬ hi < a.toInt ∧ (offs[(a.toInt - lo).toNat]?).map (fun o => (pc : Int) + o) = some (c.2 : Int))
    (h2 : ∀ k, k < (hi - lo + 1).toNat → (∃ c ∈ cs, ∃ a ∈ c.1, a.toInt = lo + (k : Int)) ∨ (offs[k]?).map (fun o => (pc : Int) + o) = some (d : Int)) : zSnd Z M pc (o_sw cs d) := by
  intro G p l e s m args below meth c F Q QX tr htr ls st σ H locs la hH hS hl hk
  unfold o_sw at hk
  split at hk
  rotate_left
  · exact hk.elim
  rename_i x r
  rcases zsw_elim hk with ⟨c', hc, a, ha, e, hk'⟩ | ⟨hn, hk'⟩
  · subst e
    obtain ⟨g1, g2, g3⟩ := h1 c' hc x ha
    cases ho : offs[(x.toInt - lo).toNat]? with
    | none => rw [ho] at g3; cases g3
    | some off =>
      rw [ho] at g3
      exact lv_tableIn F.1 F.2.1 hd g1 g2 ho (Option.some.inj g3) (htr _ ls _ σ H locs la hH hS hl hk')
  · by_cases hr : x.toInt < lo ∨ hi < x.toInt
    · exact lv_tableOut F.1 F.2.1 hd hr hdf (htr _ ls _ σ H locs la hH hS hl hk')
    · have g1 : ¬ x.toInt < lo := fun q => hr (Or.inl q)
      have g2 : ¬ hi < x.toInt := fun q => hr (Or.inr q)
      rcases h2 (x.toInt - lo).toNat (by omega) with ⟨c', hc, a, ha, e⟩ | g3
      · exact absurd (Int32.toInt_inj.mp (by rw [e]; omega)) (hn c' hc a ha)
      · cases ho : offs[(x.toInt - lo).toNat]? with
        | none => rw [ho] at g3; cases g3
        | some off =>
          rw [ho] at g3
          exact lv_tableIn F.1 F.2.1 hd g1 g2 ho (Option.some.inj g3) (htr _ ls _ σ H locs la hH hS hl hk')
theorem zoff_dflt {l : List (Int × Int)} {dflt v : Int} (h : ∀ q ∈ l, ¬ q.1 = v) : Op.lookupswitch.offset l dflt v = dflt := by
  apply Op.lookupswitch.offset_none
  rw [List.find?_eq_none]
  intro q hq
  simp [h q hq]
theorem s_lsw {dflt : Int} {ps : Array (Int × Int)} {len d : Nat} {cs : List (List Int32 × Nat)} (hd : decode M.2.1 pc = .ok (.lookupswitch dflt ps, len))
    (hdf : (pc : Int) + dflt = (d : Int)) (hp : (ps.toList.zip (ps.toList.drop 1)).all (fun (a, next) => a.1 < next.1) = true)
    (h1 : ∀ c ∈ cs, ∀ a ∈ c.1, (pc : Int) + Op.lookupswitch.offset ps.toList dflt a.toInt = (c.2 : Int))
    (h2 : ∀ q ∈ ps.toList, ∃ c ∈ cs, ∃ a ∈ c.1, a.toInt = q.1) : zSnd Z M pc (o_sw cs d) := by
  intro G p l e s m args below meth c F Q QX tr htr ls st σ H locs la hH hS hl hk
  unfold o_sw at hk
  split at hk
  rotate_left
  · exact hk.elim
  rename_i x r
  rcases zsw_elim hk with ⟨c', hc, a, ha, e, hk'⟩ | ⟨hn, hk'⟩
  · subst e
    exact lv_lookup F.1 F.2.1 hd hp rfl (h1 c' hc x ha) (htr _ ls _ σ H locs la hH hS hl hk')
  · have ho : Op.lookupswitch.offset ps.toList dflt x.toInt = dflt := zoff_dflt (fun q hq e => by
      obtain ⟨c', hc, a, ha, e2⟩ := h2 q hq
      exact hn c' hc a ha (Int32.toInt_inj.mp (by rw [e2, e])))
    exact lv_lookup F.1 F.2.1 hd hp ho hdf (htr _ ls _ σ H locs la hH hS hl hk')
end ZSWS
theorem zcn {P : Nat × zOp → Prop} : ∀ q ∈ ([] : List (Nat × zOp)), P q := fun _ h => by cases h
theorem zcc {P : Nat × zOp → Prop} {a : Nat × zOp} {l : List (Nat × zOp)} (h1 : P a) (h2 : ∀ q ∈ l, P q) : ∀ q ∈ a :: l, P q := fun q h => by
  rcases List.mem_cons.mp h with e | e
  · rw [e]; exact h1
  · exact h2 q e
theorem zca {P : Nat × zOp → Prop} {k l : List (Nat × zOp)} (h1 : ∀ q ∈ k, P q) (h2 : ∀ q ∈ l, P q) : ∀ q ∈ k ++ l, P q := fun q h => by
  rcases List.mem_append.mp h with e | e
  · exact h1 q e
  · exact h2 q e
theorem zcls_of {C : String} {T : u_T} {N : Nat} {l : List Cond} (h : u_ws C T N = l) (hl : ∀ w ∈ l, w ∈ zWS) : ∀ w ∈ u_ws C T N, w ∈ zWS := by rw [h]; exact hl
theorem zwn : ∀ w ∈ ([] : List Cond), w ∈ zWS := fun _ h => by cases h
theorem zwc {a : Cond} {l : List Cond} (h1 : a ∈ zWS) (h2 : ∀ w ∈ l, w ∈ zWS) : ∀ w ∈ a :: l, w ∈ zWS := fun w h => by
  rcases List.mem_cons.mp h with e | e
  · rw [e]; exact h1
  · exact h2 w e
section ZMATH
variable {Z : zZ} {M : zM} {pc : Nat}
def o_lmin (n : Nat) : zOp := fun _ _ tr ls st σ => match st with
  | .long y :: .long x :: r => bif Nat.ble (zcs r) 8 then tr n ls (.long (if y < x then y else x) :: r) σ else False
  | _ => False
theorem s_lmin {idx : Nat} (h1 : Cond.static Lib.MathLoose.min_long.x ∈ zWS) (h2 : Cond.initialized "java/lang/Math" ∈ zWS) (h3 : Cond.code Lib.MathLoose.min_long.x Lib.MathLoose.min_long.code 4 (some .long) ∈ zWS) (hw : Cond.methodLink M.1.cls idx Lib.MathLoose.min_long.x ∈ zWS) (hd : decode M.2.1 pc = .ok (.invokestatic idx, 3)) (hR : 1 ≤ M.2.2.2.2) : zSnd Z M pc (o_lmin (pc + 3)) := by
  intro G p l e s m args below meth c F Q QX tr htr ls st σ H locs la hH hS hl hk
  unfold o_lmin at hk
  split at hk
  rotate_left
  · exact hk.elim
  rename_i y x r
  cases hb2 : Nat.ble (zcs r) 8 with
  | false => rw [hb2] at hk; exact hk.elim
  | true =>
    rw [hb2] at hk
    have hcs := Nat.le_of_ble_eq_true hb2
    have hT : ∀ w ∈ zWS, w.before args s = true := fun w hw => F.2.2.2.2.2.1 w (List.mem_cons_of_mem _ hw)
    exact va_mmin_long F.1 F.2.1 (by rw [F.2.2.2.1, hl.1]) F.2.2.2.2.1 (hT _ hw) (hT _ h1) (hT _ h2) (hT _ h3) hR (by rw [zcs_eq]; show zcs r + 15 ≤ 40 * M.2.2.2.2; omega) (Nat.zero_le _) (Nat.zero_le _) hd (htr _ ls _ σ H locs la hH hS hl hk)
def o_imin (n : Nat) : zOp := fun _ _ tr ls st σ => match st with
  | .int y :: .int x :: r => bif Nat.ble (zcs r) 8 then tr n ls (.int (if y < x then y else x) :: r) σ else False
  | _ => False
theorem s_imin {idx : Nat} (h1 : Cond.static Lib.Math.min.name ∈ zWS) (h2 : Cond.initialized "java/lang/Math" ∈ zWS) (h3 : Cond.code Lib.Math.min.name Lib.Math.min.code 2 (some .int) ∈ zWS) (hw : Cond.methodLink M.1.cls idx Lib.Math.min.name ∈ zWS) (hd : decode M.2.1 pc = .ok (.invokestatic idx, 3)) (hR : 1 ≤ M.2.2.2.2) : zSnd Z M pc (o_imin (pc + 3)) := by
  intro G p l e s m args below meth c F Q QX tr htr ls st σ H locs la hH hS hl hk
  unfold o_imin at hk
  split at hk
  rotate_left
  · exact hk.elim
  rename_i y x r
  cases hb2 : Nat.ble (zcs r) 8 with
  | false => rw [hb2] at hk; exact hk.elim
  | true =>
    rw [hb2] at hk
    have hcs := Nat.le_of_ble_eq_true hb2
    have hT : ∀ w ∈ zWS, w.before args s = true := fun w hw => F.2.2.2.2.2.1 w (List.mem_cons_of_mem _ hw)
    exact va_mmin F.1 F.2.1 (by rw [F.2.2.2.1, hl.1]) F.2.2.2.2.1 (hT _ hw) (hT _ h1) (hT _ h2) (hT _ h3) hR (by rw [zcs_eq]; show zcs r + 13 ≤ 40 * M.2.2.2.2; omega) (Nat.zero_le _) (Nat.zero_le _) hd (htr _ ls _ σ H locs la hH hS hl hk)
def o_imax (n : Nat) : zOp := fun _ _ tr ls st σ => match st with
  | .int y :: .int x :: r => bif Nat.ble (zcs r) 8 then tr n ls (.int (if x < y then y else x) :: r) σ else False
  | _ => False
theorem s_imax {idx : Nat} (h1 : Cond.static Lib.Math.max.name ∈ zWS) (h2 : Cond.initialized "java/lang/Math" ∈ zWS) (h3 : Cond.code Lib.Math.max.name Lib.Math.max.code 2 (some .int) ∈ zWS) (hw : Cond.methodLink M.1.cls idx Lib.Math.max.name ∈ zWS) (hd : decode M.2.1 pc = .ok (.invokestatic idx, 3)) (hR : 1 ≤ M.2.2.2.2) : zSnd Z M pc (o_imax (pc + 3)) := by
  intro G p l e s m args below meth c F Q QX tr htr ls st σ H locs la hH hS hl hk
  unfold o_imax at hk
  split at hk
  rotate_left
  · exact hk.elim
  rename_i y x r
  cases hb2 : Nat.ble (zcs r) 8 with
  | false => rw [hb2] at hk; exact hk.elim
  | true =>
    rw [hb2] at hk
    have hcs := Nat.le_of_ble_eq_true hb2
    have hT : ∀ w ∈ zWS, w.before args s = true := fun w hw => F.2.2.2.2.2.1 w (List.mem_cons_of_mem _ hw)
    exact va_mmax F.1 F.2.1 (by rw [F.2.2.2.1, hl.1]) F.2.2.2.2.1 (hT _ hw) (hT _ h1) (hT _ h2) (hT _ h3) hR (by rw [zcs_eq]; show zcs r + 13 ≤ 40 * M.2.2.2.2; omega) (Nat.zero_le _) (Nat.zero_le _) hd (htr _ ls _ σ H locs la hH hS hl hk)
end ZMATH
