variable {bG : Nat}
/-! word -/
theorem am_rngA {α : Type} (x : Int32) {a b : Nat} (ha : a < 2147483648) (hb : b < 2147483648) (A B : α) : (if x < nI a then A else if nI b < x then A else B) = if a ≤ am_ix x ∧ am_ix x ≤ b then B else A := by
  have h1 := am_lt_ix (x := x) ha
  have h2 := am_gt_ix (x := x) hb
  by_cases c1 : x < nI a
  · rw [if_pos c1, if_neg]
    rw [h1] at c1
    omega
  · rw [if_neg c1]
    rw [h1] at c1
    by_cases c2 : nI b < x
    · rw [if_pos c2, if_neg]
      rw [h2] at c2
      omega
    · rw [if_neg c2, if_pos]
      rw [h2] at c2
      omega
theorem am_rngB {α : Type} (x : Int32) {a b : Nat} (ha : a < 2147483648) (hb : b < 2147483648) (A B : α) : (if x < nI a then A else if x ≤ nI b then B else A) = if a ≤ am_ix x ∧ am_ix x ≤ b then B else A := by
  rw [← am_rngA x ha hb A B]
  by_cases c1 : x < nI a
  · rw [if_pos c1, if_pos c1]
  · rw [if_neg c1, if_neg c1]
    by_cases c2 : nI b < x
    · rw [if_pos c2, if_neg (Int32.not_le.mpr c2)]
    · rw [if_neg c2, if_pos (Int32.not_lt.mp c2)]
theorem c928 (d : Nat) (x : Int32) (μ : am_Mem) : am_call (d + 1) 928 [.int x] μ = am_ret (some (.int (nI (decide (1 ≤ am_ix x ∧ am_ix x ≤ 1023)).toNat))) μ := by
  rw [e928, q928_0, q928_16, q928_17, q928_17, am_gbt0, am_gbt1, show am_c 1023 = nI 1023 from rfl, show (if x < am_c 1 then am_ret (some (.int (am_c 0))) μ else if nI 1023 < x then am_ret (some (.int (am_c 0))) μ else am_ret (some (.int (am_c 1))) μ) = _ from am_rngA x (a := 1) (b := 1023) (by omega) (by omega) _ _]
  exact am_retb _ rfl μ
def ps_fu {α : Type} (f : Nat → α) (k : Nat) (v : α) : Nat → α := fun j => if j = k then v else f j
theorem ps_fu_at {α : Type} (f : Nat → α) (k : Nat) (v : α) : ps_fu f k v k = v := by simp [ps_fu]
theorem ps_fu_ne {α : Type} {f : Nat → α} {k j : Nat} {v : α} (h : j ≠ k) : ps_fu f k v j = f j := by simp [ps_fu, h]
def ps_wordS (S : ps_S) (m : Nat) : ps_S := (S.w + 1, ps_fu S.mk S.w m, S.kn, S.lim, S.chg, S.ed, S.sta, S.n, S.hd, S.ct, S.us, S.bn, S.bk, S.law)
def ps_word (O : ps_O) (x : Int32) : Int32 × ps_O := if O.S.w < 16 ∧ 1 ≤ am_ix x ∧ am_ix x ≤ 1023 then (nI O.S.w, O.fg (ps_wordS O.S (am_ix x))) else (-1, O)
theorem C_word (d : Nat) (O : ps_O) (hO : ps_Ow O) (x : Int32) : ps_sC bG (d + 2) 902 [.ref 0, .int x] O (some (.int (ps_word O x).1)) (ps_word O x).2 := by
  intro μ h
  obtain ⟨r1, r2, r3, r4, r5, r6, r7, r8, r9, r10, r11, r12, r13⟩ := id h.1
  have w1 : O.S.w ≤ 16 := hO.1.1
  rw [e902, q902_0, r1, c928 d, am_bI_ret]
  by_cases hc : O.S.w < 16 ∧ 1 ≤ am_ix x ∧ am_ix x ≤ 1023
  · rw [if_neg (by rw [am_cN, am_leN (by omega) (by omega)]; omega), decide_eq_true hc.2, if_neg (by decide), q902_21, r1, am_ixN (by omega), am_gbI hc.1, c401, am_bV_ret, ps_word, if_pos hc]
    refine ⟨_, rfl, h.fg ?_ rfl (fun K h1 h2 _ _ _ _ h7 => by rw [am_up_ne h7, am_up_ne h1, am_up_ne h2]) (by rw [am_upS]; rfl) (by rw [am_upI (by omega), am_upK (by omega), am_upK (by omega)]), ps_kC.up (ps_kC.up (ps_kC.up ps_kC.rf (by omega)) (by omega)) (by omega)⟩
    refine ⟨?_, ?_, ?_, ?_, ?_, ?_, ?_, ?_, ?_, ?_, ?_, ?_, ?_⟩
    · rw [am_upK (by omega), am_upS, am_cN, nI_add]; rfl
    · intro k hk
      have hk : k < O.S.w + 1 := hk
      show am_up (am_up (am_up μ 2 O.S.w x) 1 4 _) 37 4 _ 2 k = nI (ps_fu O.S.mk O.S.w (am_ix x) k)
      rw [am_upK (by omega), am_upK (by omega)]
      by_cases hkw : k = O.S.w
      · rw [hkw, am_upS, ps_fu_at, am_nIx]
      · rw [am_upI hkw, ps_fu_ne hkw]
        exact r2 k (by omega)
    all_goals first
      | (rw [am_upK (by omega), am_upI (by omega), am_upK (by omega)]; assumption)
      | (intro k hk; rw [am_upK (by omega), am_upK (by omega), am_upK (by omega)]; first | exact r9 k hk | exact r10 k hk)
      | (intro k i hk hi; rw [am_upK (by omega), am_upK (by omega), am_upK (by omega)]; first | exact r11 k i hk hi | exact r13 k i hk hi)
  · rw [ps_word, if_neg hc]
    refine ⟨μ, ?_, h, ps_kC.rf⟩
    by_cases h16 : 16 ≤ O.S.w
    · rw [if_pos (by rw [am_cN, am_leN (by omega) (by omega)]; omega), q902_19]; rfl
    · rw [if_neg (by rw [am_cN, am_leN (by omega) (by omega)]; omega), decide_eq_false (by omega), if_pos (by decide), q902_19]; rfl
theorem M_word (d : Nat) (O : ps_O) (hO : ps_Ow O) (x : Int32) : ps_sM (d + 2) 1011 [.ref 56, .int x] O (some (.int (ps_word O x).1)) (ps_word O x).2 := by
  intro μ h
  obtain ⟨r1, r2, r3, r4, r5, r6, r7, r8, r9, r10, r11, r12, r13⟩ := id h.1
  have w1 : O.S.w ≤ 16 := hO.1.1
  have w3 : O.S.kn < 2 ^ O.S.w := hO.1.2.2.1
  have w7 : O.S.n ≤ 12 := hO.1.2.2.2.2.2.2.1
  have w9 : O.S.bn ≤ 80 := hO.1.2.2.2.2.2.2.2.2.1
  rw [e1011, q1011_0, am_cN, am_cN, m1001c d x (by omega) (by omega), am_bI_ret, r1]
  by_cases hc : O.S.w < 16 ∧ 1 ≤ am_ix x ∧ am_ix x ≤ 1023
  · rw [decide_eq_true hc.2, if_neg (by decide), if_neg (by rw [am_cN, am_eqN (by omega) (by omega)]; omega), q1011_24, r1, am_cN, nI_add, am_ixN (by omega), am_gbI (by omega), am_upI (by omega), r1, am_cN, nI_add, am_ixN (by omega), am_gbI (by omega), am_upI (by omega), am_upI (by omega), r1, m1008, am_bV_ret, am_upK (by omega), am_upS, am_cN, nI_add, pk_sub (by omega), Nat.add_sub_cancel, ps_word, if_pos hc]
    refine ⟨_, rfl, h.fg ?_ rfl (fun i hi => by rw [am_upK (by omega), am_upI (by omega), am_upI (by omega), am_upI (by omega)]) (fun K h1 h2 => by rw [am_up_ne h1, am_up_ne h2, am_up_ne h2, am_up_ne h2]) (by rw [am_upS]; rfl) (fun i hi => by rw [am_upI hi, am_upK (by omega), am_upK (by omega), am_upK (by omega)]), ps_kM.up (ps_kM.up (ps_kM.up (ps_kM.up ps_kM.rf (by omega) (by omega)) (by omega) (by omega)) (by omega) (by omega)) (by omega) (by omega)⟩
    refine ⟨?_, ?_, ?_, ?_, ?_, ?_, ?_, ?_, ?_, ?_, ?_, ?_, ?_⟩
    · rw [am_upK (by omega), am_upS]; rfl
    · intro k hk
      have hk : k < O.S.w + 1 := hk
      show _ = nI (ps_fu O.S.mk O.S.w (am_ix x) k)
      rw [am_upK (by omega), am_upI (by omega), am_upI (by omega)]
      by_cases hkw : k = O.S.w
      · rw [hkw, am_upS, ps_fu_at, am_nIx]
      · rw [am_upI (by omega), ps_fu_ne hkw]
        exact r2 k (by omega)
    · intro k hk
      have hk : k < O.S.w + 1 := hk
      show _ = nI (O.S.kn.testBit k).toNat
      rw [am_upK (by omega), am_upI (by omega)]
      by_cases hkw : k = O.S.w
      · rw [hkw, am_upS, Nat.testBit_lt_two_pow w3]; rfl
      · rw [am_upI (by omega), am_upI (by omega)]
        exact r3 k (by omega)
    all_goals first
      | (rw [am_upK (by omega), am_upI (by omega), am_upI (by omega), am_upI (by omega)]; assumption)
      | (intro k hk; rw [am_upK (by omega), am_upI (by omega), am_upI (by omega), am_upI (by omega)]; first | exact r9 k hk | exact r10 k hk)
      | (intro k i hk hi; rw [am_upK (by omega), am_upI (by omega), am_upI (by omega), am_upI (by omega)]; first | exact r11 k i hk hi | exact r13 k i hk hi)
  · rw [ps_word, if_neg hc]
    refine ⟨μ, ?_, h, ps_kM.rf⟩
    by_cases hx : 1 ≤ am_ix x ∧ am_ix x ≤ 1023
    · rw [decide_eq_true hx, if_neg (by decide), if_pos (by rw [am_cN, am_eqN (by omega) (by omega)]; omega), q1011_22]; rfl
    · rw [decide_eq_false hx, if_pos (by decide), q1011_22]; rfl
