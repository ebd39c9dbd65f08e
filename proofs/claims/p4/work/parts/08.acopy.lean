/-! static tables of a nest mate, System.arraycopy from place 0 to place 0 -/
section ZCPY
variable {Z : zZ} {M : zM} {pc : Nat}
theorem s_getsN {C nm d host : String} {k idx : Nat} (hz : ∀ (G : zG) (s : State), Z.2.2 G (zA Z G) s → va_Z C nm d (.ref (G.2.2 k)) (zA Z G) s s.heap) (hw : Cond.fieldLinkNest M.1.cls idx C nm d host ∈ zNW) (hd : decode M.2.1 pc = .ok (.getstatic idx, 3)) : zSnd Z M pc (o_gets k (pc + 3)) := by
  intro G p l e s m args below meth c F Q QX tr htr ls st σ H locs la hH hS hl hk
  exact va_getsN F.1 F.2.1 (hz G s F.2.2.2.2.2.2.1.2.2.2) hS F.2.2.2.2.1 (va_Nw.use rfl (F.2.2.2.2.2.2.1.2.2.1 _ hw)) (fun _ h => h) hd (htr _ ls _ σ H locs la hH hS hl hk)
/-- the first n places of cell b out of cell a -/
def zsC (σ : zS) (a b n : Nat) : zS := (fun c j => if c = b ∧ j < n then σ.1 a j else σ.1 c j, σ.2)
theorem zsC_ne {σ : zS} {a b n : Nat} : ∀ c, c ≠ b → (zsC σ a b n).1 c = σ.1 c ∧ (zsC σ a b n).2 c = σ.2 c := fun c h => ⟨by funext j; simp [zsC, h], rfl⟩
def o_acopy (Y : List zC) (n : Nat) : zOp := fun _ _ tr ls st σ => match st with
  | [.int cnt, .int dp, .ref b, .int sp, .ref a] => match zat Y a, zat Y b with
    | some (.inr x), some (.inr y) => bif zty x.1 y.1 && (zty x.1 .int || zty x.1 .short) then sp = 0 ∧ dp = 0 ∧ ¬ cnt < 0 ∧ cnt.toNatClampNeg ≤ x.2 ∧ cnt.toNatClampNeg ≤ y.2 ∧ (∀ i, i < cnt.toNatClampNeg → fits x.1 (.int (σ.1 a i)) = true) ∧ (∀ τ : zS, τ = zsC σ a b cnt.toNatClampNeg → tr n ls [] τ) else False
    | _, _ => False
  | _ => False
theorem s_acopy {idx : Nat} (hlk : Cond.methodLink M.1.cls idx arraycopyName ∈ zWS) (hnat : Cond.native arraycopyName ∈ zWS) (hst : Cond.static arraycopyName ∈ zWS) (hini : Cond.initialized "java/lang/System" ∈ zWS) (hR : 1 ≤ M.2.2.2.2) (hd : decode M.2.1 pc = .ok (.invokestatic idx, 3)) : zSnd Z M pc (o_acopy Z.2.1 (pc + 3)) := by
  intro G p l e s m args below meth c F Q QX tr htr ls st σ H locs la hH hS hl hk
  unfold o_acopy at hk
  split at hk
  rotate_left
  · exact hk.elim
  rename_i cnt dp b sp a
  split at hk
  rotate_left
  · exact hk.elim
  · rename_i x y hza hzb
    have hxa : Z.2.1[a]? = some (.inr x) := by rw [← zat_eq]; assumption
    have hxb : Z.2.1[b]? = some (.inr y) := by rw [← zat_eq]; assumption
    obtain ⟨xt, xn⟩ := x
    obtain ⟨yt, yn⟩ := y
    cases hb : (zty xt yt && (zty xt .int || zty xt .short)) with
    | false => simp only [hb] at hk; exact hk.elim
    | true =>
      simp only [hb] at hk
      rw [Bool.and_eq_true, Bool.or_eq_true] at hb
      have hty := zty_eq hb.1
      subst hty
      obtain ⟨rfl, rfl, h3, h4, h5, h6, hk⟩ := hk
      have hea := zW_get (G := G) (σ := σ) hxa
      have heb := zW_get (G := G) (σ := σ) hxb
      have hcase : xt = .int ∨ xt = .short := by
        rcases hb.2 with q | q
        · exact Or.inl (zty_eq q)
        · exact Or.inr (zty_eq q)
      have hloc : ((([] : List Value).map fun v => v.category).sum + (nativeFrameWords "java/lang/System" "arraycopy" 5 + 11)) ≤ (zR M.2.2.2.2).locals := by
        have : nativeFrameWords "java/lang/System" "arraycopy" 5 = 7 := by decide +kernel
        rw [this]
        show 0 + (7 + 11) ≤ 40 * M.2.2.2.2
        omega
      have hw := fun w hw => F.2.2.2.2.2.1 w (List.mem_cons_of_mem _ hw)
      have hcell : ∀ σ' : zS, (zcell G σ' b (Sum.inr (xt, yn))) = .inl (G.2.1 xt, yn, .inl (σ'.1 b)) := fun σ' => by rcases hcase with q | q <;> subst q <;> rfl
      have hcell2 : ∀ σ' : zS, (zcell G σ' a (Sum.inr (xt, xn))) = .inl (G.2.1 xt, xn, .inl (σ'.1 a)) := fun σ' => by rcases hcase with q | q <;> subst q <;> rfl
      rw [hcell] at heb
      rw [hcell2] at hea
      have hset := zW_set (G := G) (σ := σ) (τ := zsC σ a b cnt.toNatClampNeg) (e := .inl (G.2.1 xt, yn, .inl (va_cpy (σ.1 a) (σ.1 b) (0 : Int32).toNatClampNeg (0 : Int32).toNatClampNeg cnt.toNatClampNeg))) hxb (by
        rw [hcell]
        have q : (zsC σ a b cnt.toNatClampNeg).1 b = va_cpy (σ.1 a) (σ.1 b) (0 : Int32).toNatClampNeg (0 : Int32).toNatClampNeg cnt.toNatClampNeg := by
          funext j
          have z0 : (0 : Int32).toNatClampNeg = 0 := by decide
          simp [zsC, va_cpy, z0]
        rw [q]) zsC_ne
      have t : ∃ t0 : Nat, (zT G.2.1)[t0]? = some (G.2.1 xt, xt) := by
        rcases hcase with q | q
        · subst q; exact ⟨0, rfl⟩
        · subst q; exact ⟨3, rfl⟩
      obtain ⟨t0, ht0⟩ := t
      have hpr : refKind xt = false := by rcases hcase with q | q <;> subst q <;> rfl
      have z0 : (0 : Int32).toNatClampNeg = 0 := by decide
      refine va_copyi F.1 F.2.1 (F.2.2.2.1.trans hl.1.symm) F.2.2.2.2.1 (hw _ hlk) (hw _ hnat) (hw _ hst) (hw _ hini) F.2.2.2.2.2.2.1.1 hH (zW_D F.2.2.2.2.2.2.1.2.1) hS a b t0 t0 hea heb ht0 ht0 hpr (by decide) (by decide) h3 (by rw [z0]; omega) (by rw [z0]; omega) (fun i hi => by rw [z0, Nat.zero_add]; exact h6 i hi) hR hloc hd (fun H1 locs1 hP1 _ hS1 => ?_)
      refine htr _ ls [] _ H1 locs1 la ?_ hS1 hl (hk _ rfl)
      show va_P G.1 Z.1 (zW Z G (zsC σ a b cnt.toNatClampNeg)) H1
      rw [← hset]
      exact hP1
end ZCPY
