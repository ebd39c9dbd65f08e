/-! the reference's typing of an instruction -/
theorem fo_ofB : ∀ n, n < 256 → (([0, 1, 2, 3, 4, 5, 11, 12, 13, 14, 15, 16, 17, 26, 27, 32, 33, 34, 35, 36, 63, 64, 65, 66, 252] : List Nat).elem n || isLdN n || isStN n || decide (mFollows n = 0) || decide (mFollows n = 10)) = true := by decide +kernel
theorem fo_of (n : Nat) (hn : n < 256) (h1 : ¬ n = 0 ∧ ¬ n = 1 ∧ ¬ (n = 2 ∨ n = 3 ∨ n = 4) ∧ ¬ n = 5 ∧ ¬ n = 11 ∧ ¬ n = 12 ∧ ¬ n = 13 ∧ ¬ n = 14 ∧ ¬ n = 15 ∧ ¬ n = 16 ∧ ¬ n = 17 ∧ ¬ n = 26 ∧ ¬ n = 27) (h2 : ¬ (n = 32 ∨ n = 33 ∨ n = 34) ∧ ¬ (n = 35 ∨ n = 36) ∧ ¬ (n = 63 ∨ n = 64) ∧ ¬ n = 65 ∧ ¬ n = 66 ∧ ¬ n = 252 ∧ ¬ (isLdN n = true ∨ isStN n = true)) : mFollows n = 0 ∨ mFollows n = 10 := by
  have h := fo_ofB n hn
  rw [Bool.or_eq_true, Bool.or_eq_true, Bool.or_eq_true, Bool.or_eq_true, decide_eq_true_eq, decide_eq_true_eq, List.elem_iff] at h
  simp only [List.mem_cons, List.not_mem_nil, or_false] at h
  rcases h with (((h | h) | h) | h) | h
  · omega
  · exact absurd (Or.inl h) h2.2.2.2.2.2.2
  · exact absurd (Or.inr h) h2.2.2.2.2.2.2
  · exact Or.inl h
  · exact Or.inr h
theorem mOps_x {b : Nat → Nat} {e op fr a : Nat} {hc : Bool} {r : mInsT × Nat} (k : mFollows op = 10) (h : mOps b e hc op fr a = .ok r) : False := by
  rw [mOps, if_neg (by omega), if_neg (by omega), if_neg (by omega), if_neg (by omega), if_neg (by omega), if_neg (by omega), if_neg (by omega), if_neg (by omega), if_neg (by omega), if_neg (by omega)] at h
  cases h
theorem sp_checkOne {τ σ s : zS} {B : Nat} {b : Nat → Nat} {e a op fr z : Nat} {hc : Bool} {x : mInsT} {t : tT} {A : mA} {L : List Nat} {g : mSigT} {K : zS → Prop} {QX : zS → Prop} (hs : tSt τ σ s B b e a t) (hr : mRep σ B A) (hF : ∀ f, f < nFun A → funSig A f < (aS A).length) (hlr : lR σ L) (hL : ∀ i, i < L.length → L.getD i 0 ≤ 1) (hg : sigOk g)
    (hx : op < 256) (hne : ¬ op = 252) (hf : ¬ t.2.1 = []) (hl : t.1.length < 16000) (hfl : 2 ≤ op ∧ op ≤ 4 → t.2.1.length < 61) (hO : mOps b e hc op fr a = .ok (x, z)) (h : ∀ s', tSt τ σ s' B b e z (tOne A L g x t) → K s') : zCT zZM zmX10_checkOne [.ref 0, .ref 1, .int (nI op), .int (nI (sigC g))] s (zQv K) QX := by
  have cc : ∀ {n : Nat}, n < 256 → (nI op = nI n ↔ op = n) := fun hn => nI_eq (by omega) (by omega)
  have hae := hs.1.2.2.2.2.1
  refine rX10_checkOne ?_
  unfold PX10_checkOne_0
  refine ⟨fun q => ?_, fun q0 => ⟨fun q => ?_, fun q1 => ⟨fun q => ?_, fun q2 => ⟨fun q => ?_, fun q5 => ⟨fun q => ?_, fun q11 => ⟨fun q => ?_, fun q12 => ⟨fun q => ?_, fun q13 => ⟨fun q => ?_, fun q14 => ⟨fun q => ?_, fun q15 => ⟨fun q => ?_, fun q16 => ⟨fun q => ?_, fun q17 => ⟨fun q => ?_, fun q26 => ⟨fun q => ?_, fun q27 => ⟨fun q => ?_, fun q32 => ⟨fun q => ?_, fun q35 => ⟨fun q => ?_, fun q63 => ⟨fun q => ?_, fun q65 => ⟨fun q => ?_, fun q66 => ?_⟩⟩⟩⟩⟩⟩⟩⟩⟩⟩⟩⟩⟩⟩⟩⟩⟩⟩
  · have q : op = 0 := (cc (n := 0) (by decide)).1 q
    subst q
    obtain ⟨rfl, rfl⟩ := mOps_0 rfl hO
    exact sp_rest hs hf h
  · have q : op = 1 := (cc (n := 1) (by decide)).1 q
    subst q
    obtain ⟨rfl, rfl⟩ := mOps_0 rfl hO
    exact h s hs
  · have q : nI op = nI 2 ∨ nI op = nI 3 ∨ nI op = nI 4 := q
    rw [cc (by decide), cc (by decide), cc (by decide)] at q
    rcases q with rfl | rfl | rfl
    · obtain ⟨u, hu, rfl, rfl⟩ := mOps_1 rfl hO
      have u1 := mBt_in hu
      refine sp_blockType hs.1 ?_
      rw [hu, mW_ok]
      have hs1 := hs.at (a' := u.2) (by omega)
      refine ⟨fun z => absurd z (by decide), fun _ => ?_⟩
      unfold PX10_checkOne_308
      refine ⟨fun z => absurd z (by decide), fun _ => ?_⟩
      exact sp_openFrame (w := 2) hs1 (hfl (by decide)) (by decide) u1.2.2 u1.2.2 h
    · obtain ⟨u, hu, rfl, rfl⟩ := mOps_1 rfl hO
      have u1 := mBt_in hu
      refine sp_blockType hs.1 ?_
      rw [hu, mW_ok]
      have hs1 := hs.at (a' := u.2) (by omega)
      refine ⟨fun z => absurd z (by decide), fun _ => ?_⟩
      unfold PX10_checkOne_308
      refine ⟨fun _ => ?_, fun z => absurd rfl z⟩
      exact sp_openFrame (w := 3) (l := 2) hs1 (hfl (by decide)) (by decide) (by decide) u1.2.2 h
    · obtain ⟨u, hu, rfl, rfl⟩ := mOps_1 rfl hO
      have u1 := mBt_in hu
      refine sp_blockType hs.1 ?_
      rw [hu, mW_ok]
      have hs1 := hs.at (a' := u.2) (by omega)
      refine ⟨fun _ => ?_, fun z => absurd rfl z⟩
      refine sp_takes (n := 0) hs1 (by decide) hf (fun _ s2 hs2 => ?_)
      unfold PX10_checkOne_308
      refine ⟨fun z => absurd z (by decide), fun _ => ?_⟩
      exact sp_openFrame (w := 4) hs2 (by rw [tTake_f]; exact hfl (by decide)) (by decide) u1.2.2 u1.2.2 h
  · have q : op = 5 := (cc (n := 5) (by decide)).1 q
    subst q
    obtain ⟨rfl, rfl⟩ := mOps_0 rfl hO
    exact sp_o5 hs hf h
  · have q : op = 11 := (cc (n := 11) (by decide)).1 q
    subst q
    obtain ⟨rfl, rfl⟩ := mOps_0 rfl hO
    exact sp_o11 hs hf hl h
  · have q : op = 12 := (cc (n := 12) (by decide)).1 q
    subst q
    obtain ⟨u, hu, rfl, rfl⟩ := mOps_2 rfl hO
    have u1 := mU_in hu hae
    refine sp_u hs.1 ?_
    rw [hu, mW_ok]
    refine sp_label (hs.at u1.2) (mU_lt hu) (fun hk s2 hs2 => ?_)
    refine sp_takes hs2 (by omega) hf (fun _ s3 hs3 => ?_)
    exact sp_rest hs3 (by rw [tTake_f]; exact hf) h
  · have q : op = 13 := (cc (n := 13) (by decide)).1 q
    subst q
    obtain ⟨u, hu, rfl, rfl⟩ := mOps_2 rfl hO
    have u1 := mU_in hu hae
    refine sp_u hs.1 ?_
    rw [hu, mW_ok]
    refine sp_label (hs.at u1.2) (mU_lt hu) (fun hk s2 hs2 => ?_)
    refine sp_takes (n := 0) hs2 (by decide) hf (fun _ s3 hs3 => ?_)
    refine sp_takes hs3 (by omega) (by rw [tTake_f]; exact hf) (fun _ s4 hs4 => ?_)
    exact sp_gives hs4 (by omega) (Nat.lt_of_le_of_lt (Nat.le_trans (tTake_len _ _) (tTake_len _ _)) hl) h
  · have q : op = 14 := (cc (n := 14) (by decide)).1 q
    subst q
    obtain ⟨u, l, hu, hn, hrow, rfl⟩ := mOps_8 rfl hO
    exact sp_labelRow hs hf hu hn hrow h
  · have q : op = 15 := (cc (n := 15) (by decide)).1 q
    subst q
    obtain ⟨rfl, rfl⟩ := mOps_0 rfl hO
    refine sp_resultOf hg ?_
    refine sp_takes hs (by have := hg.2.2; omega) hf (fun _ s3 hs3 => ?_)
    exact sp_rest hs3 (by rw [tTake_f]; exact hf) h
  · have q : op = 16 := (cc (n := 16) (by decide)).1 q
    subst q
    obtain ⟨u, hu, rfl, rfl⟩ := mOps_2 rfl hO
    exact sp_o16 hs hr hF hf hl hu h
  · have q : op = 17 := (cc (n := 17) (by decide)).1 q
    subst q
    obtain ⟨u, hu, hz, rfl⟩ := mOps_6 rfl hO
    exact sp_o17 hs hr hf hl hu hz h
  · have q : op = 26 := (cc (n := 26) (by decide)).1 q
    subst q
    obtain ⟨rfl, rfl⟩ := mOps_0 rfl hO
    exact sp_takes (n := 3) hs (by decide) hf (fun _ s3 hs3 => h s3 hs3)
  · have q : op = 27 := (cc (n := 27) (by decide)).1 q
    subst q
    obtain ⟨rfl, rfl⟩ := mOps_0 rfl hO
    exact sp_o27 hs hf hl h
  · have q : nI op = nI 32 ∨ nI op = nI 33 ∨ nI op = nI 34 := q
    rw [cc (by decide), cc (by decide), cc (by decide)] at q
    have k : mFollows op = 2 := by rcases q with rfl | rfl | rfl <;> rfl
    obtain ⟨u, hu, rfl, rfl⟩ := mOps_2 k hO
    refine sp_o32 hs q hlr hL hf hl hu (fun s' hs' => h s' ?_)
    rcases q with rfl | rfl | rfl <;> exact hs'
  · have q : nI op = nI 35 ∨ nI op = nI 36 := q
    rw [cc (by decide), cc (by decide)] at q
    have k : mFollows op = 2 := by rcases q with rfl | rfl <;> rfl
    obtain ⟨u, hu, rfl, rfl⟩ := mOps_2 k hO
    refine sp_o35 hs q hr hf hl hu (fun s' hs' => h s' ?_)
    rcases q with rfl | rfl <;> exact hs'
  · have q : nI op = nI 63 ∨ nI op = nI 64 := q
    rw [cc (by decide), cc (by decide)] at q
    have k : mFollows op = 7 := by rcases q with rfl | rfl <;> rfl
    obtain ⟨hz, rfl⟩ := mOps_7 k hO
    have z1 := mNeed_in hz
    refine sp_needOctet (v := 0) hs.1 (by decide) ?_
    rw [hz, mW_ok]
    have hs1 := hs.at (a' := z) (by omega)
    refine sp_has (k := 2) (hs1.rep hr) (Or.inr rfl) ?_
    refine sp_need hs1 rfl (fun s2 hs2 => ?_)
    have e1 : nI op - (63 : Int32) = nI (op - 63) := pk_sub (b := 63) (by omega)
    rw [e1]
    refine sp_turns (fr := 0) (to := 0) hs2 (by decide) (by omega) (by decide) hf hl (fun s' hs' => h s' ?_)
    rcases q with rfl | rfl <;> exact hs'
  · have q : op = 65 := (cc (n := 65) (by decide)).1 q
    subst q
    obtain ⟨hz, rfl⟩ := mOps_3 rfl hO
    have z1 := mSk_in _ _ _ hz hae
    refine sp_s hs.1 ?_
    rw [hz, mW_ok]
    intro _
    exact sp_gives (n := 0) (hs.at z1.2) (by decide) hl h
  · have q : op = 66 := (cc (n := 66) (by decide)).1 q
    subst q
    obtain ⟨hz, rfl⟩ := mOps_4 rfl hO
    have z1 := mSk_in _ _ _ hz hae
    refine sp_l hs.1 ?_
    rw [hz, mW_ok]
    intro _
    exact sp_gives (n := 1) (hs.at z1.2) (by decide) hl h
  · have q0 : ¬ nI op = nI 0 := q0
    have q1 : ¬ nI op = nI 1 := q1
    have q2 : ¬ (nI op = nI 2 ∨ nI op = nI 3 ∨ nI op = nI 4) := q2
    have q5 : ¬ nI op = nI 5 := q5
    have q11 : ¬ nI op = nI 11 := q11
    have q12 : ¬ nI op = nI 12 := q12
    have q13 : ¬ nI op = nI 13 := q13
    have q14 : ¬ nI op = nI 14 := q14
    have q15 : ¬ nI op = nI 15 := q15
    have q16 : ¬ nI op = nI 16 := q16
    have q17 : ¬ nI op = nI 17 := q17
    have q26 : ¬ nI op = nI 26 := q26
    have q27 : ¬ nI op = nI 27 := q27
    have q32 : ¬ (nI op = nI 32 ∨ nI op = nI 33 ∨ nI op = nI 34) := q32
    have q35 : ¬ (nI op = nI 35 ∨ nI op = nI 36) := q35
    have q63 : ¬ (nI op = nI 63 ∨ nI op = nI 64) := q63
    have q65 : ¬ nI op = nI 65 := q65
    have q66 : ¬ nI op = nI 66 := q66
    rw [cc (by decide)] at q0 q1 q5 q11 q12 q13 q14 q15 q16 q17 q26 q27 q65 q66
    rw [cc (by decide), cc (by decide), cc (by decide)] at q2 q32
    rw [cc (by decide), cc (by decide)] at q35 q63
    have hacc : (isLdN op = true ∨ isStN op = true) → ∀ s1, s1 = s → PX10_checkOne_927 (zQv K) QX (nI op) s1 := by
      intro hk s1 e1
      subst e1
      obtain ⟨u, v, hu, hv, rfl, rfl⟩ := mOps_5 (fo_mem op hx hk) hO
      unfold PX10_checkOne_927
      refine sp_access hs hr hx hf hl hu hv (fun s' hs' => h s' ?_)
      unfold tOne
      rw [if_neg q0, if_neg q1, if_neg q2, if_neg q5, if_neg q11, if_neg q12, if_neg q13, if_neg q14, if_neg q15, if_neg q16, if_neg q17, if_neg q26, if_neg q27, if_neg q32, if_neg q35, if_neg q63, if_neg q65, if_neg q66, if_pos hk]
      exact hs'
    refine sp_isLoad hx ?_
    rw [bI_0]
    refine ⟨fun z1 => ?_, fun z1 => hacc (Or.inl (by simpa using z1)) s rfl⟩
    refine sp_isStore hx ?_
    rw [bI_0]
    refine ⟨fun z2 => ?_, fun z2 => hacc (Or.inr (by simpa using z2)) s rfl⟩
    have hk : ¬ (isLdN op = true ∨ isStN op = true) := by rw [z1, z2]; decide
    have k : mFollows op = 0 := by
      rcases fo_of op hx ⟨q0, q1, q2, q5, q11, q12, q13, q14, q15, q16, q17, q26, q27⟩ ⟨q32, q35, q63, q65, q66, hne, hk⟩ with k | k
      · exact k
      · exact (mOps_x k hO).elim
    obtain ⟨rfl, rfl⟩ := mOps_0 k hO
    refine sp_numbers hs hf hl hx (fun s' hs' => h s' ?_)
    unfold tOne
    rw [if_neg q0, if_neg q1, if_neg q2, if_neg q5, if_neg q11, if_neg q12, if_neg q13, if_neg q14, if_neg q15, if_neg q16, if_neg q17, if_neg q26, if_neg q27, if_neg q32, if_neg q35, if_neg q63, if_neg q65, if_neg q66, if_neg hk]
    exact hs'
