/-! the bounds that state, word, set, end keep; the law's loop -/
theorem W_state (O : ps_O) (hO : ps_Ow O) (v : Int32) : ps_Ow (ps_state O v) := hO.fg (S := (O.S.w, O.S.mk, O.S.kn, O.S.lim, O.S.chg, O.S.ed, v, O.S.n, O.S.hd, O.S.ct, O.S.us, O.S.bn, O.S.bk, O.S.law)) hO.1 rfl
theorem W_word (O : ps_O) (hO : ps_Ow O) (x : Int32) : ps_Ow (ps_word O x).2 := by
  unfold ps_word
  by_cases h : O.S.w < 16 ∧ 1 ≤ am_ix x ∧ am_ix x ≤ 1023
  · rw [if_pos h]
    refine hO.fg (S := ps_wordS O.S (am_ix x)) ?_ rfl
    obtain ⟨h1, h2, h3, h4, h5, h6, h7, h8, h9⟩ := hO.1
    refine ⟨show O.S.w + 1 ≤ 16 by omega, fun k hk => ?_, ?_, h4, h5, h6, h7, fun e he => ?_, h9⟩
    · show 1 ≤ ps_fu O.S.mk O.S.w (am_ix x) k ∧ ps_fu O.S.mk O.S.w (am_ix x) k ≤ 1023
      have hk' : k < O.S.w + 1 := hk
      unfold ps_fu
      by_cases hkw : k = O.S.w
      · rw [if_pos hkw]; exact h.2
      · rw [if_neg hkw]; exact h2 k (by omega)
    · show O.S.kn < 2 ^ (O.S.w + 1)
      have h3' : O.S.kn < 2 ^ O.S.w := h3
      rw [Nat.pow_succ]; omega
    · obtain ⟨a1, a2, a3, a4, a5⟩ := h8 e he
      exact ⟨show O.S.hd e < O.S.w + 1 by omega, a2, a3, fun i hi => ⟨show O.S.us e i < O.S.w + 1 from Nat.lt_succ_of_lt (a4 i hi).1, (a4 i hi).2⟩, a5⟩
  · rw [if_neg h]; exact hO
theorem W_end (O : ps_O) (hO : ps_Ow O) (x : Int32) : ps_Ow (ps_end O x).2 := by
  unfold ps_end
  by_cases h : am_ix x ≤ O.tl
  · rw [if_pos h]
    obtain ⟨h1, h2, h3, h4, h5⟩ := hO
    exact ⟨h1, h2, show am_ix x ≤ 400 by omega, fun i hi => h4 i (Nat.lt_of_lt_of_le hi h), h5⟩
  · rw [if_neg h]; exact hO
theorem W_set (O : ps_O) (hO : ps_Ow O) (x k v : Int32) : ps_Ow (ps_set O x k v).2 := by
  obtain ⟨h1, h2, h3, h4, h5, h6, h7, h8, h9⟩ := id hO.1
  unfold ps_set
  split
  · split
    · rename_i h
      exact hO.fg (S := ps_setL O.S (am_ix v)) ⟨h1, h2, h3, h, h5, h6, h7, h8, h9⟩ rfl
    · exact hO
  · split
    · split
      · rename_i h
        exact hO.fg (S := ps_setC O.S (am_ix v)) ⟨h1, h2, h3, h4, h.2, h6, h7, h8, h9⟩ rfl
      · exact hO
    · split
      · split
        · rename_i h
          refine hO.fg (S := ps_setK O.S (am_ix k) (am_ix v)) ⟨h1, h2, ?_, h4, h5, h6, h7, h8, h9⟩ rfl
          show ps_setB O.S.kn (am_ix k) (am_ix v) < 2 ^ O.S.w
          refine Nat.lt_pow_two_of_testBit _ (fun j hj => ?_)
          have hj' : O.S.w ≤ j := hj
          rw [ps_setB_bit h.2, if_neg (by omega)]
          exact Nat.testBit_lt_two_pow (Nat.lt_of_lt_of_le h3 (Nat.pow_le_pow_right (by decide) hj'))
        · exact hO
      · split
        · split
          · rename_i h
            refine hO.fg (S := ps_setM O.S (am_ix k) (am_ix v)) ⟨h1, fun j hj => ?_, h3, h4, h5, h6, h7, h8, h9⟩ rfl
            show 1 ≤ ps_fu O.S.mk (am_ix k) (am_ix v) j ∧ ps_fu O.S.mk (am_ix k) (am_ix v) j ≤ 1023
            unfold ps_fu
            by_cases hjk : j = am_ix k
            · rw [if_pos hjk]; exact h.2
            · rw [if_neg hjk]; exact h2 j hj
          · exact hO
        · exact hO
/-- what holds at the law's loop -/
def lp_G (bG n : Nat) (z : Nat → Int32) (O : ps_O) (μ : am_Mem) : Prop := ps_Ic bG O μ ∧ ps_Im O μ ∧ ps_Ow O ∧ μ 998 0 = nI n ∧ μ 999 = z
theorem lp_G.up {bG n : Nat} {z : Nat → Int32} {O : ps_O} {μ : am_Mem} (h : lp_G bG n z O μ) : lp_G (bG + 1) n z O μ := ⟨h.1.le (Nat.le_succ _), h.2⟩
theorem lp_two {bG d M N n : Nat} {a b : am_V} {z : Nat → Int32} {O O' : ps_O} {r : Option Value} {μ : am_Mem} (hc : ps_s1 bG d M a O r O') (hm : ps_sM d N b O r O') (hw : ps_Ow O') (h : lp_G bG n z O μ) : ∃ μ1 μ2, am_call d M a μ = am_ret r μ1 ∧ (μ1 998 0 = nI n ∧ μ1 999 = z) ∧ am_call d N b μ1 = am_ret r μ2 ∧ lp_G (bG + 1) n z O' μ2 := by
  obtain ⟨h1, h2, h3, h4, h5⟩ := h
  obtain ⟨μ1, a1, a2, a3⟩ := hc μ h1
  have i1 : ps_Im O μ1 := h2.off (fun K hK => a3 K (by omega))
  obtain ⟨μ2, b1, b2, b3⟩ := hm μ1 i1
  have c1 : ps_Ic (bG + 1) O' μ2 := a2.off (fun K hK => b3 K (Or.inl (by
    have : ∀ K ∈ ps_cC, K < 56 := by decide
    exact this K hK)))
  have e8 : μ1 998 = μ 998 := a3 998 (by omega)
  have e9 : μ1 999 = μ 999 := a3 999 (by omega)
  have f8 : μ2 998 = μ1 998 := b3 998 (by omega)
  have f9 : μ2 999 = μ1 999 := b3 999 (by omega)
  exact ⟨μ1, μ2, a1, ⟨by rw [e8]; exact h4, by rw [e9]; exact h5⟩, b1, c1, b2, hw, by rw [f8, e8]; exact h4, by rw [f9, e9]; exact h5⟩
/-- a round of the loop from the place P -/
def lp_R (bG d n : Nat) (z : Nat → Int32) (P x : Nat) : Prop := ∀ (O : ps_O) (μ : am_Mem), lp_G bG n z O μ → ∃ O' μ', am_ev (am_call (d + 40)) 1100 P [.ref 999, .ref 0, .ref 56, .int (nI x)] [] μ = am_ev (am_call (d + 40)) 1100 913 [.ref 999, .ref 0, .ref 56, .int (nI x)] [] μ' ∧ lp_G (bG + 1) n z O' μ'
section Law
variable {bG d n x : Nat} {z : Nat → Int32}
theorem lp_state (hn : n < 2147483000) (hx : x + 6 ≤ n) : lp_R bG d n z 156 x := by
  intro O μ h
  have hO : ps_Ow O := h.2.2.1
  have h4 : μ 998 0 = nI n := h.2.2.2.1
  have h5 : μ 999 = z := h.2.2.2.2
  obtain ⟨μ1, μ2, a1, ⟨a2, a3⟩, a4, a5⟩ := lp_two (C_state (d + 38) O (z (x + 1))).up (M_state (d + 38) O hO (z (x + 1))) (W_state O hO (z (x + 1))) h
  refine ⟨_, μ2, ?_, a5⟩
  rw [q1100_156]
  simp (disch := omega) only [am_cN, nI_add, am_ixN, h4, h5, am_gbI]
  rw [a1, am_bI_ret]
  simp (disch := omega) only [am_ixN, a2, a3, am_gbI]
  rw [a4, am_bI_ret, if_pos rfl]
theorem lp_word (hn : n < 2147483000) (hx : x + 6 ≤ n) : lp_R bG d n z 179 x := by
  intro O μ h
  have hO : ps_Ow O := h.2.2.1
  have h4 : μ 998 0 = nI n := h.2.2.2.1
  have h5 : μ 999 = z := h.2.2.2.2
  obtain ⟨μ1, μ2, a1, ⟨a2, a3⟩, a4, a5⟩ := lp_two (C_word (d + 38) O hO (z (x + 1))).up (M_word (d + 38) O hO (z (x + 1))) (W_word O hO (z (x + 1))) h
  refine ⟨_, μ2, ?_, a5⟩
  rw [q1100_179]
  simp (disch := omega) only [am_cN, nI_add, am_ixN, h4, h5, am_gbI]
  rw [a1, am_bI_ret]
  simp (disch := omega) only [am_ixN, a2, a3, am_gbI]
  rw [a4, am_bI_ret, if_pos rfl]
theorem lp_set (hn : n < 2147483000) (hx : x + 6 ≤ n) : lp_R bG d n z 202 x := by
  intro O μ h
  have hO : ps_Ow O := h.2.2.1
  have h4 : μ 998 0 = nI n := h.2.2.2.1
  have h5 : μ 999 = z := h.2.2.2.2
  obtain ⟨μ1, μ2, a1, ⟨a2, a3⟩, a4, a5⟩ := lp_two (C_set (d + 37) O hO (z (x + 1)) (z (x + 2)) (z (x + 3))).up (M_set (d + 37) O hO (z (x + 1)) (z (x + 2)) (z (x + 3))) (W_set O hO (z (x + 1)) (z (x + 2)) (z (x + 3))) h
  refine ⟨_, μ2, ?_, a5⟩
  rw [q1100_202]
  simp (disch := omega) only [am_cN, nI_add, am_ixN, h4, h5, am_gbI]
  rw [a1, am_bI_ret]
  simp (disch := omega) only [am_ixN, a2, a3, am_gbI]
  rw [a4, am_bI_ret, if_pos rfl]
theorem lp_entry (hn : n < 2147483000) (hx : x + 6 ≤ n) : lp_R bG d n z 245 x := by
  intro O μ h
  have hO : ps_Ow O := h.2.2.1
  have h4 : μ 998 0 = nI n := h.2.2.2.1
  have h5 : μ 999 = z := h.2.2.2.2
  obtain ⟨μ1, μ2, a1, ⟨a2, a3⟩, a4, a5⟩ := lp_two (C_entry (d + 37) O hO (z (x + 1)) (z (x + 2)) (z (x + 3)) (z (x + 4))).up (M_entry (d + 36) O hO (z (x + 1)) (z (x + 2)) (z (x + 3)) (z (x + 4))) (W_entry O hO (z (x + 1)) (z (x + 2)) (z (x + 3)) (z (x + 4))) h
  refine ⟨_, μ2, ?_, a5⟩
  rw [q1100_245]
  simp (disch := omega) only [am_cN, nI_add, am_ixN, h4, h5, am_gbI]
  rw [a1, am_bI_ret]
  simp (disch := omega) only [am_ixN, a2, a3, am_gbI]
  rw [a4, am_bI_ret, if_pos rfl]
theorem lp_drop (hn : n < 2147483000) (hx : x + 6 ≤ n) : lp_R bG d n z 298 x := by
  intro O μ h
  have hO : ps_Ow O := h.2.2.1
  have h4 : μ 998 0 = nI n := h.2.2.2.1
  have h5 : μ 999 = z := h.2.2.2.2
  obtain ⟨μ1, μ2, a1, ⟨a2, a3⟩, a4, a5⟩ := lp_two (C_drop (d + 36) O hO (z (x + 1))).up (M_drop (d + 36) O hO (z (x + 1))) (W_drop O hO (z (x + 1))) h
  refine ⟨_, μ2, ?_, a5⟩
  rw [q1100_298]
  simp (disch := omega) only [am_cN, nI_add, am_ixN, h4, h5, am_gbI]
  rw [a1, am_bI_ret]
  simp (disch := omega) only [am_ixN, a2, a3, am_gbI]
  rw [a4, am_bI_ret, if_pos rfl]
theorem lp_move (hn : n < 2147483000) (hx : x + 6 ≤ n) : lp_R bG d n z 321 x := by
  intro O μ h
  have hO : ps_Ow O := h.2.2.1
  have h4 : μ 998 0 = nI n := h.2.2.2.1
  have h5 : μ 999 = z := h.2.2.2.2
  obtain ⟨μ1, μ2, a1, ⟨a2, a3⟩, a4, a5⟩ := lp_two (C_move (d + 36) O hO (z (x + 1)) (z (x + 2))).up (M_move (d + 36) O hO (z (x + 1)) (z (x + 2))) (W_move O hO (z (x + 1)) (z (x + 2))) h
  refine ⟨_, μ2, ?_, a5⟩
  rw [q1100_321]
  simp (disch := omega) only [am_cN, nI_add, am_ixN, h4, h5, am_gbI]
  rw [a1, am_bI_ret]
  simp (disch := omega) only [am_ixN, a2, a3, am_gbI]
  rw [a4, am_bI_ret, if_pos rfl]
theorem lp_feed (hn : n < 2147483000) (hx : x + 6 ≤ n) : lp_R bG d n z 354 x := by
  intro O μ h
  have hO : ps_Ow O := h.2.2.1
  have h4 : μ 998 0 = nI n := h.2.2.2.1
  have h5 : μ 999 = z := h.2.2.2.2
  obtain ⟨μ1, μ2, a1, ⟨a2, a3⟩, a4, a5⟩ := lp_two (C_feed (d + 38) O hO (z (x + 1)) (z (x + 2)) (z (x + 3)) (z (x + 4)) (z (x + 5))).up (M_feed (d + 39) O hO (z (x + 1)) (z (x + 2)) (z (x + 3)) (z (x + 4)) (z (x + 5))) (W_feed O hO (z (x + 1)) (z (x + 2)) (z (x + 3)) (z (x + 4)) (z (x + 5))) h
  refine ⟨_, μ2, ?_, a5⟩
  rw [q1100_354]
  simp (disch := omega) only [am_cN, nI_add, am_ixN, h4, h5, am_gbI]
  rw [a1, am_bI_ret]
  simp (disch := omega) only [am_ixN, a2, a3, am_gbI]
  rw [a4, am_bI_ret, if_pos rfl]
theorem lp_end (hn : n < 2147483000) (hx : x + 6 ≤ n) : lp_R bG d n z 417 x := by
  intro O μ h
  have hO : ps_Ow O := h.2.2.1
  have h4 : μ 998 0 = nI n := h.2.2.2.1
  have h5 : μ 999 = z := h.2.2.2.2
  obtain ⟨μ1, μ2, a1, ⟨a2, a3⟩, a4, a5⟩ := lp_two (C_end (d + 39) O hO (z (x + 1))).up (M_end (d + 38) O hO (z (x + 1))) (W_end O hO (z (x + 1))) h
  refine ⟨_, μ2, ?_, a5⟩
  rw [q1100_417]
  simp (disch := omega) only [am_cN, nI_add, am_ixN, h4, h5, am_gbI]
  rw [a1, am_bI_ret]
  simp (disch := omega) only [am_ixN, a2, a3, am_gbI]
  rw [a4, am_bI_ret, if_pos rfl]
theorem lp_text (hn : n < 2147483000) (hx : x + 6 ≤ n) : lp_R bG d n z 440 x := by
  intro O μ h
  have hO : ps_Ow O := h.2.2.1
  have h4 : μ 998 0 = nI n := h.2.2.2.1
  have h5 : μ 999 = z := h.2.2.2.2
  obtain ⟨μ1, μ2, a1, ⟨a2, a3⟩, a4, a5⟩ := lp_two (C_text (d + 5) O hO ).up (M_text (d + 0) O hO ) (W_text O hO) h
  refine ⟨_, μ2, ?_, a5⟩
  rw [q1100_440]

  rw [a1, am_bI_ret]

  rw [a4, am_bI_ret, if_pos rfl]
theorem lp_fault (hn : n < 2147483000) (hx : x + 6 ≤ n) : lp_R bG d n z 453 x := by
  intro O μ h
  have hO : ps_Ow O := h.2.2.1
  have h4 : μ 998 0 = nI n := h.2.2.2.1
  have h5 : μ 999 = z := h.2.2.2.2
  obtain ⟨μ1, μ2, a1, ⟨a2, a3⟩, a4, a5⟩ := lp_two (C_fault (d + 39) O (z (x + 1))).up (M_fault (d + 39) O (z (x + 1))) (hO) h
  refine ⟨_, μ2, ?_, a5⟩
  rw [q1100_453]
  simp (disch := omega) only [am_cN, nI_add, am_ixN, h4, h5, am_gbI]
  rw [a1, am_bI_ret]
  simp (disch := omega) only [am_ixN, a2, a3, am_gbI]
  rw [a4, am_bI_ret, if_pos rfl]
theorem lp_editions (hn : n < 2147483000) (hx : x + 6 ≤ n) : lp_R bG d n z 476 x := by
  intro O μ h
  have hO : ps_Ow O := h.2.2.1
  have h4 : μ 998 0 = nI n := h.2.2.2.1
  have h5 : μ 999 = z := h.2.2.2.2
  obtain ⟨μ1, μ2, a1, ⟨a2, a3⟩, a4, a5⟩ := lp_two (C_editions (d + 35) O hO (z (x + 1))).up (M_editions (d + 36) O hO (z (x + 1))) (W_editions O hO (z (x + 1))) h
  refine ⟨_, μ2, ?_, a5⟩
  rw [q1100_476]
  simp (disch := omega) only [am_cN, nI_add, am_ixN, h4, h5, am_gbI]
  rw [a1, am_bI_ret]
  simp (disch := omega) only [am_ixN, a2, a3, am_gbI]
  rw [a4, am_bI_ret, if_pos rfl]
theorem lp_of (hn : n < 2147483000) (hx : x + 6 ≤ n) : lp_R bG d n z 499 x := by
  intro O μ h
  have hO : ps_Ow O := h.2.2.1
  have h4 : μ 998 0 = nI n := h.2.2.2.1
  have h5 : μ 999 = z := h.2.2.2.2
  obtain ⟨μ1, μ2, a1, ⟨a2, a3⟩, a4, a5⟩ := lp_two (C_of (d + 36) O hO (z (x + 1)) (z (x + 2))).up (M_of (d + 36) O hO (z (x + 1)) (z (x + 2))) (hO) h
  refine ⟨_, μ2, ?_, a5⟩
  rw [q1100_499]
  simp (disch := omega) only [am_cN, nI_add, am_ixN, h4, h5, am_gbI]
  rw [a1, am_bI_ret]
  simp (disch := omega) only [am_ixN, a2, a3, am_gbI]
  rw [a4, am_bI_ret, if_pos rfl]
theorem lp_at (hn : n < 2147483000) (hx : x + 6 ≤ n) : lp_R bG d n z 532 x := by
  intro O μ h
  have hO : ps_Ow O := h.2.2.1
  have h4 : μ 998 0 = nI n := h.2.2.2.1
  have h5 : μ 999 = z := h.2.2.2.2
  obtain ⟨μ1, μ2, a1, ⟨a2, a3⟩, a4, a5⟩ := lp_two (C_at (d + 35) O hO (z (x + 1)) (z (x + 2))).up (M_at (d + 35) O hO (z (x + 1)) (z (x + 2))) (hO) h
  refine ⟨_, μ2, ?_, a5⟩
  rw [q1100_532]
  simp (disch := omega) only [am_cN, nI_add, am_ixN, h4, h5, am_gbI]
  rw [a1, am_bI_ret]
  simp (disch := omega) only [am_ixN, a2, a3, am_gbI]
  rw [a4, am_bI_ret, if_pos rfl]
theorem lp_fixes (hn : n < 2147483000) (hx : x + 6 ≤ n) : lp_R bG d n z 565 x := by
  intro O μ h
  have hO : ps_Ow O := h.2.2.1
  have h4 : μ 998 0 = nI n := h.2.2.2.1
  have h5 : μ 999 = z := h.2.2.2.2
  obtain ⟨μ1, μ2, a1, ⟨a2, a3⟩, a4, a5⟩ := lp_two (C_fixes (d + 36) O hO (z (x + 1)) (z (x + 2))).up (M_fixes (d + 36) O hO (z (x + 1)) (z (x + 2))) (hO) h
  refine ⟨_, μ2, ?_, a5⟩
  rw [q1100_565]
  simp (disch := omega) only [am_cN, nI_add, am_ixN, h4, h5, am_gbI]
  rw [a1, am_bI_ret]
  simp (disch := omega) only [am_ixN, a2, a3, am_gbI]
  rw [a4, am_bI_ret, if_pos rfl]
theorem lp_judge (hn : n < 2147483000) (hx : x + 6 ≤ n) : lp_R bG d n z 598 x := by
  intro O μ h
  have hO : ps_Ow O := h.2.2.1
  have h4 : μ 998 0 = nI n := h.2.2.2.1
  have h5 : μ 999 = z := h.2.2.2.2
  obtain ⟨μ1, μ2, a1, ⟨a2, a3⟩, a4, a5⟩ := lp_two (C_judge (d + 33) O hO (z (x + 1))).up (M_judge (d + 34) O hO (z (x + 1))) (hO) h
  refine ⟨_, μ2, ?_, a5⟩
  rw [q1100_598]
  simp (disch := omega) only [am_cN, nI_add, am_ixN, h4, h5, am_gbI]
  rw [a1, am_bI_ret]
  simp (disch := omega) only [am_ixN, a2, a3, am_gbI]
  rw [a4, am_bI_ret, if_pos rfl]
theorem lp_learnt (hn : n < 2147483000) (hx : x + 6 ≤ n) : lp_R bG d n z 621 x := by
  intro O μ h
  have hO : ps_Ow O := h.2.2.1
  have h4 : μ 998 0 = nI n := h.2.2.2.1
  have h5 : μ 999 = z := h.2.2.2.2
  obtain ⟨μ1, μ2, a1, ⟨a2, a3⟩, a4, a5⟩ := lp_two (C_learnt (d + 34) O hO (z (x + 1)) (z (x + 2))).up (M_learnt (d + 34) O hO (z (x + 1)) (z (x + 2))) (hO) h
  refine ⟨_, μ2, ?_, a5⟩
  rw [q1100_621]
  simp (disch := omega) only [am_cN, nI_add, am_ixN, h4, h5, am_gbI]
  rw [a1, am_bI_ret]
  simp (disch := omega) only [am_ixN, a2, a3, am_gbI]
  rw [a4, am_bI_ret, if_pos rfl]
theorem lp_order (hn : n < 2147483000) (hx : x + 6 ≤ n) : lp_R bG d n z 654 x := by
  intro O μ h
  have hO : ps_Ow O := h.2.2.1
  have h4 : μ 998 0 = nI n := h.2.2.2.1
  have h5 : μ 999 = z := h.2.2.2.2
  obtain ⟨μ1, μ2, a1, ⟨a2, a3⟩, a4, a5⟩ := lp_two (C_order (d + 35) O hO (z (x + 1))).up (M_order (d + 34) O hO (z (x + 1))) (hO) h
  refine ⟨_, μ2, ?_, a5⟩
  rw [q1100_654]
  simp (disch := omega) only [am_cN, nI_add, am_ixN, h4, h5, am_gbI]
  rw [a1, am_bI_ret]
  simp (disch := omega) only [am_ixN, a2, a3, am_gbI]
  rw [a4, am_bI_ret, if_pos rfl]
theorem lp_ring (hn : n < 2147483000) (hx : x + 6 ≤ n) : lp_R bG d n z 677 x := by
  intro O μ h
  have hO : ps_Ow O := h.2.2.1
  have h4 : μ 998 0 = nI n := h.2.2.2.1
  have h5 : μ 999 = z := h.2.2.2.2
  obtain ⟨μ1, μ2, a1, ⟨a2, a3⟩, a4, a5⟩ := lp_two (C_ring (d + 35) O hO ).up (M_ring (d + 34) O hO ) (hO) h
  refine ⟨_, μ2, ?_, a5⟩
  rw [q1100_677]

  rw [a1, am_bI_ret]

  rw [a4, am_bI_ret, if_pos rfl]
theorem lp_cut (hn : n < 2147483000) (hx : x + 6 ≤ n) : lp_R bG d n z 690 x := by
  intro O μ h
  have hO : ps_Ow O := h.2.2.1
  have h4 : μ 998 0 = nI n := h.2.2.2.1
  have h5 : μ 999 = z := h.2.2.2.2
  obtain ⟨μ1, μ2, a1, ⟨a2, a3⟩, a4, a5⟩ := lp_two (C_cut (d + 20) O hO ).up (M_cut (d + 34) O hO ) (hO) h
  refine ⟨_, μ2, ?_, a5⟩
  rw [q1100_690]

  rw [a1, am_bI_ret]

  rw [a4, am_bI_ret, if_pos rfl]
theorem lp_least (hn : n < 2147483000) (hx : x + 6 ≤ n) : lp_R bG d n z 703 x := by
  intro O μ h
  have hO : ps_Ow O := h.2.2.1
  have h4 : μ 998 0 = nI n := h.2.2.2.1
  have h5 : μ 999 = z := h.2.2.2.2
  obtain ⟨μ1, μ2, a1, ⟨a2, a3⟩, a4, a5⟩ := lp_two (C_least (d + 20) O hO ).up (M_least (d + 34) O hO ) (hO) h
  refine ⟨_, μ2, ?_, a5⟩
  rw [q1100_703]

  rw [a1, am_bI_ret]

  rw [a4, am_bI_ret, if_pos rfl]
theorem lp_most (hn : n < 2147483000) (hx : x + 6 ≤ n) (hB : bG + 1 ≤ 2047) : lp_R bG d n z 716 x := by
  intro O μ h
  have hO : ps_Ow O := h.2.2.1
  have h4 : μ 998 0 = nI n := h.2.2.2.1
  have h5 : μ 999 = z := h.2.2.2.2
  obtain ⟨μ1, μ2, a1, ⟨a2, a3⟩, a4, a5⟩ := lp_two (C_most (d + 24) O hO hB (z (x + 1)) (z (x + 2))) (M_most (d + 35) O hO (z (x + 1)) (z (x + 2))) (hO) h
  refine ⟨_, μ2, ?_, a5⟩
  rw [q1100_716]
  simp (disch := omega) only [am_cN, nI_add, am_ixN, h4, h5, am_gbI]
  rw [a1, am_bI_ret]
  simp (disch := omega) only [am_ixN, a2, a3, am_gbI]
  rw [a4, am_bI_ret, if_pos rfl]
theorem lp_worn (hn : n < 2147483000) (hx : x + 6 ≤ n) : lp_R bG d n z 749 x := by
  intro O μ h
  have hO : ps_Ow O := h.2.2.1
  have h4 : μ 998 0 = nI n := h.2.2.2.1
  have h5 : μ 999 = z := h.2.2.2.2
  obtain ⟨μ1, μ2, a1, ⟨a2, a3⟩, a4, a5⟩ := lp_two (C_worn (d + 34) O hO (z (x + 1)) (z (x + 2))).up (M_worn (d + 36) O hO (z (x + 1)) (z (x + 2))) (hO) h
  refine ⟨_, μ2, ?_, a5⟩
  rw [q1100_749]
  simp (disch := omega) only [am_cN, nI_add, am_ixN, h4, h5, am_gbI]
  rw [a1, am_bI_ret]
  simp (disch := omega) only [am_ixN, a2, a3, am_gbI]
  rw [a4, am_bI_ret, if_pos rfl]
theorem lp_trade (hn : n < 2147483000) (hx : x + 6 ≤ n) : lp_R bG d n z 782 x := by
  intro O μ h
  have hO : ps_Ow O := h.2.2.1
  have h4 : μ 998 0 = nI n := h.2.2.2.1
  have h5 : μ 999 = z := h.2.2.2.2
  obtain ⟨μ1, μ2, a1, ⟨a2, a3⟩, a4, a5⟩ := lp_two (C_trade (d + 33) O hO (z (x + 1))).up (M_trade (d + 34) O hO (z (x + 1))) (hO) h
  refine ⟨_, μ2, ?_, a5⟩
  rw [q1100_782]
  simp (disch := omega) only [am_cN, nI_add, am_ixN, h4, h5, am_gbI]
  rw [a1, am_bI_ret]
  simp (disch := omega) only [am_ixN, a2, a3, am_gbI]
  rw [a4, am_bI_ret, if_pos rfl]
theorem lp_book (hn : n < 2147483000) (hx : x + 6 ≤ n) : lp_R bG d n z 805 x := by
  intro O μ h
  have hO : ps_Ow O := h.2.2.1
  have h4 : μ 998 0 = nI n := h.2.2.2.1
  have h5 : μ 999 = z := h.2.2.2.2
  obtain ⟨μ1, μ2, a1, ⟨a2, a3⟩, a4, a5⟩ := lp_two (C_book (d + 39) O hO (z (x + 1)) (z (x + 2))).up (M_book (d + 38) O hO (z (x + 1)) (z (x + 2))) (hO) h
  refine ⟨_, μ2, ?_, a5⟩
  rw [q1100_805]
  simp (disch := omega) only [am_cN, nI_add, am_ixN, h4, h5, am_gbI]
  rw [a1, am_bI_ret]
  simp (disch := omega) only [am_ixN, a2, a3, am_gbI]
  rw [a4, am_bI_ret, if_pos rfl]
theorem lp_undo (hn : n < 2147483000) (hx : x + 6 ≤ n) : lp_R bG d n z 838 x := by
  intro O μ h
  have hO : ps_Ow O := h.2.2.1
  have h4 : μ 998 0 = nI n := h.2.2.2.1
  have h5 : μ 999 = z := h.2.2.2.2
  obtain ⟨μ1, μ2, a1, ⟨a2, a3⟩, a4, a5⟩ := lp_two (C_undo (d + 37) O hO ).up (M_undo (d + 39) O hO ) (W_undo O hO) h
  refine ⟨_, μ2, ?_, a5⟩
  rw [q1100_838]

  rw [a1, am_bI_ret]

  rw [a4, am_bI_ret, if_pos rfl]
theorem lp_look (hn : n < 2147483000) (hx : x + 6 ≤ n) : lp_R bG d n z 890 x := by
  intro O μ h
  have hO : ps_Ow O := h.2.2.1
  have h4 : μ 998 0 = nI n := h.2.2.2.1
  have h5 : μ 999 = z := h.2.2.2.2
  obtain ⟨μ1, μ2, a1, ⟨a2, a3⟩, a4, a5⟩ := lp_two (C_look (d + 39) O (z (x + 1))).up (M_look (d + 38) O (z (x + 1))) (hO) h
  refine ⟨_, μ2, ?_, a5⟩
  rw [q1100_890]
  simp (disch := omega) only [am_cN, nI_add, am_ixN, h4, h5, am_gbI]
  rw [a1, am_bI_ret]
  simp (disch := omega) only [am_ixN, a2, a3, am_gbI]
  rw [a4, am_bI_ret, if_pos rfl]
theorem lp_image (hn : n < 2147483000) (hx : x + 6 ≤ n) : lp_R bG d n z 851 x := by
  intro O μ h
  have hO : ps_Ow O := h.2.2.1
  have h4 : μ 998 0 = nI n := h.2.2.2.1
  have h5 : μ 999 = z := h.2.2.2.2
  rw [q1100_851]
  simp (disch := omega) only [am_cN, nI_add, am_ixN, h4, h5, am_gbI]
  by_cases hz : z (x + 1) = 0
  · obtain ⟨μ1, μ2, a1, ⟨a2, a3⟩, a4, a5⟩ := lp_two (C_image (d + 36) O hO (nI 0)).up (M_image (d + 38) O hO (nI 0)) (W_image O hO (nI 0)) h
    refine ⟨_, μ2, ?_, a5⟩
    rw [if_pos hz, q1100_864, am_cN, q1100_865, a1, am_bI_ret]
    simp (disch := omega) only [am_cN, nI_add, am_ixN, a2, a3, am_gbI]
    rw [if_pos hz, q1100_881, am_cN, q1100_882, a4, am_bI_ret, if_pos rfl]
  · obtain ⟨μ1, μ2, a1, ⟨a2, a3⟩, a4, a5⟩ := lp_two (C_image (d + 36) O hO (nI 1)).up (M_image (d + 38) O hO (nI 1)) (W_image O hO (nI 1)) h
    refine ⟨_, μ2, ?_, a5⟩
    rw [if_neg hz, q1100_865, a1, am_bI_ret]
    simp (disch := omega) only [am_cN, nI_add, am_ixN, a2, a3, am_gbI]
    rw [if_neg hz, q1100_882, a4, am_bI_ret, if_pos rfl]
end Law
theorem lp_pick {bG d n x : Nat} {z : Nat → Int32} {c : Prop} [Decidable c] {μ : am_Mem} {O : ps_O} {P : Nat} {R : am_R} (hp : lp_R bG d n z P x) (h : lp_G bG n z O μ) (hr : ∃ O' μ', R = am_ev (am_call (d + 40)) 1100 913 [.ref 999, .ref 0, .ref 56, .int (nI x)] [] μ' ∧ lp_G (bG + 1) n z O' μ') : ∃ O' μ', (if c then am_ev (am_call (d + 40)) 1100 P [.ref 999, .ref 0, .ref 56, .int (nI x)] [] μ else R) = am_ev (am_call (d + 40)) 1100 913 [.ref 999, .ref 0, .ref 56, .int (nI x)] [] μ' ∧ lp_G (bG + 1) n z O' μ' := by
  by_cases hc : c
  · rw [if_pos hc]; exact hp O μ h
  · rw [if_neg hc]; exact hr
theorem lp_out {n x : Nat} (hn : n < 2147483648) (hx : x < 2147483648) : nI n - nI 6 < nI x ↔ n < x + 6 := by
  by_cases h : 6 ≤ n
  · rw [pk_sub h, am_ltN (by omega) hx]
    exact ⟨fun h => by omega, fun h => by omega⟩
  · refine ⟨fun _ => by omega, fun _ => ?_⟩
    have h0 : nI 0 ≤ nI x := by rw [am_leN (by omega) hx]; omega
    refine Int32.lt_of_lt_of_le (b := nI 0) ?_ h0
    rcases (show n = 0 ∨ n = 1 ∨ n = 2 ∨ n = 3 ∨ n = 4 ∨ n = 5 by omega) with rfl | rfl | rfl | rfl | rfl | rfl <;> decide
theorem lp_loop {d n : Nat} {z : Nat → Int32} (hL : n ≤ 3072) : ∀ (k bG x : Nat) (O : ps_O) (μ : am_Mem), n ≤ x + k → 6 * bG ≤ x → lp_G bG n z O μ → x < n + 12 → ∃ μ', am_ev (am_call (d + 40)) 1100 18 [.ref 999, .ref 0, .ref 56, .int (nI x)] [] μ = am_ret (some (.int (nI 1))) μ' := by
  have hn : n < 2147483000 := by omega
  intro k
  induction k with
  | zero =>
    intro bG x O μ h1 hb h2 h3
    have h4 : μ 998 0 = nI n := h2.2.2.2.1
    rw [q1100_18, h4, am_cN, if_pos ((lp_out (by omega) (by omega)).mpr (by omega)), q1100_919, am_cN]
    exact ⟨μ, rfl⟩
  | succ k ih =>
    intro bG x O μ h1 hb h2 h3
    have h4 : μ 998 0 = nI n := h2.2.2.2.1
    have h5 : μ 999 = z := h2.2.2.2.2
    rw [q1100_18, h4, am_cN]
    have ho := lp_out (n := n) (x := x) (by omega) (by omega)
    by_cases hx : n < x + 6
    · rw [if_pos (ho.mpr hx), q1100_919, am_cN]
      exact ⟨μ, rfl⟩
    · rw [if_neg (fun h => hx (ho.mp h)), am_ixN (by omega), am_ixN (by omega), am_gbI (by omega)]
      have hx' : x + 6 ≤ n := by omega
      have hB : bG + 1 ≤ 2047 := by omega
      have main : ∃ O' μ', (if ((μ 999 x) &&& (am_c 31)) = (am_c 0) then am_ev (am_call (d + 40)) 1100 156 [.ref 999, .ref 0, .ref 56, .int (nI x)] [] μ else if ((μ 999 x) &&& (am_c 31)) = (am_c 1) then am_ev (am_call (d + 40)) 1100 179 [.ref 999, .ref 0, .ref 56, .int (nI x)] [] μ else if ((μ 999 x) &&& (am_c 31)) = (am_c 2) then am_ev (am_call (d + 40)) 1100 202 [.ref 999, .ref 0, .ref 56, .int (nI x)] [] μ else if ((μ 999 x) &&& (am_c 31)) = (am_c 3) then am_ev (am_call (d + 40)) 1100 245 [.ref 999, .ref 0, .ref 56, .int (nI x)] [] μ else if ((μ 999 x) &&& (am_c 31)) = (am_c 4) then am_ev (am_call (d + 40)) 1100 298 [.ref 999, .ref 0, .ref 56, .int (nI x)] [] μ else if ((μ 999 x) &&& (am_c 31)) = (am_c 5) then am_ev (am_call (d + 40)) 1100 321 [.ref 999, .ref 0, .ref 56, .int (nI x)] [] μ else if ((μ 999 x) &&& (am_c 31)) = (nI 6) then am_ev (am_call (d + 40)) 1100 354 [.ref 999, .ref 0, .ref 56, .int (nI x)] [] μ else if ((μ 999 x) &&& (am_c 31)) = (am_c 7) then am_ev (am_call (d + 40)) 1100 417 [.ref 999, .ref 0, .ref 56, .int (nI x)] [] μ else if ((μ 999 x) &&& (am_c 31)) = (am_c 8) then am_ev (am_call (d + 40)) 1100 440 [.ref 999, .ref 0, .ref 56, .int (nI x)] [] μ else if ((μ 999 x) &&& (am_c 31)) = (am_c 9) then am_ev (am_call (d + 40)) 1100 453 [.ref 999, .ref 0, .ref 56, .int (nI x)] [] μ else if ((μ 999 x) &&& (am_c 31)) = (am_c 10) then am_ev (am_call (d + 40)) 1100 476 [.ref 999, .ref 0, .ref 56, .int (nI x)] [] μ else if ((μ 999 x) &&& (am_c 31)) = (am_c 11) then am_ev (am_call (d + 40)) 1100 499 [.ref 999, .ref 0, .ref 56, .int (nI x)] [] μ else if ((μ 999 x) &&& (am_c 31)) = (am_c 12) then am_ev (am_call (d + 40)) 1100 532 [.ref 999, .ref 0, .ref 56, .int (nI x)] [] μ else if ((μ 999 x) &&& (am_c 31)) = (am_c 13) then am_ev (am_call (d + 40)) 1100 565 [.ref 999, .ref 0, .ref 56, .int (nI x)] [] μ else if ((μ 999 x) &&& (am_c 31)) = (am_c 14) then am_ev (am_call (d + 40)) 1100 598 [.ref 999, .ref 0, .ref 56, .int (nI x)] [] μ else if ((μ 999 x) &&& (am_c 31)) = (am_c 15) then am_ev (am_call (d + 40)) 1100 621 [.ref 999, .ref 0, .ref 56, .int (nI x)] [] μ else if ((μ 999 x) &&& (am_c 31)) = (am_c 16) then am_ev (am_call (d + 40)) 1100 654 [.ref 999, .ref 0, .ref 56, .int (nI x)] [] μ else if ((μ 999 x) &&& (am_c 31)) = (am_c 17) then am_ev (am_call (d + 40)) 1100 677 [.ref 999, .ref 0, .ref 56, .int (nI x)] [] μ else if ((μ 999 x) &&& (am_c 31)) = (am_c 18) then am_ev (am_call (d + 40)) 1100 690 [.ref 999, .ref 0, .ref 56, .int (nI x)] [] μ else if ((μ 999 x) &&& (am_c 31)) = (am_c 19) then am_ev (am_call (d + 40)) 1100 703 [.ref 999, .ref 0, .ref 56, .int (nI x)] [] μ else if ((μ 999 x) &&& (am_c 31)) = (am_c 20) then am_ev (am_call (d + 40)) 1100 716 [.ref 999, .ref 0, .ref 56, .int (nI x)] [] μ else if ((μ 999 x) &&& (am_c 31)) = (am_c 21) then am_ev (am_call (d + 40)) 1100 749 [.ref 999, .ref 0, .ref 56, .int (nI x)] [] μ else if ((μ 999 x) &&& (am_c 31)) = (am_c 22) then am_ev (am_call (d + 40)) 1100 782 [.ref 999, .ref 0, .ref 56, .int (nI x)] [] μ else if ((μ 999 x) &&& (am_c 31)) = (am_c 23) then am_ev (am_call (d + 40)) 1100 805 [.ref 999, .ref 0, .ref 56, .int (nI x)] [] μ else if ((μ 999 x) &&& (am_c 31)) = (am_c 24) then am_ev (am_call (d + 40)) 1100 838 [.ref 999, .ref 0, .ref 56, .int (nI x)] [] μ else if ((μ 999 x) &&& (am_c 31)) = (am_c 25) then am_ev (am_call (d + 40)) 1100 851 [.ref 999, .ref 0, .ref 56, .int (nI x)] [] μ else if ((μ 999 x) &&& (am_c 31)) = (am_c 26) then am_ev (am_call (d + 40)) 1100 890 [.ref 999, .ref 0, .ref 56, .int (nI x)] [] μ else am_ev (am_call (d + 40)) 1100 913 [.ref 999, .ref 0, .ref 56, .int (nI x)] [] μ) = am_ev (am_call (d + 40)) 1100 913 [.ref 999, .ref 0, .ref 56, .int (nI x)] [] μ' ∧ lp_G (bG + 1) n z O' μ' :=
        lp_pick (lp_state hn hx') h2 <| lp_pick (lp_word hn hx') h2 <| lp_pick (lp_set hn hx') h2 <| lp_pick (lp_entry hn hx') h2 <| lp_pick (lp_drop hn hx') h2 <| lp_pick (lp_move hn hx') h2 <| lp_pick (lp_feed hn hx') h2 <| lp_pick (lp_end hn hx') h2 <| lp_pick (lp_text hn hx') h2 <| lp_pick (lp_fault hn hx') h2 <| lp_pick (lp_editions hn hx') h2 <| lp_pick (lp_of hn hx') h2 <| lp_pick (lp_at hn hx') h2 <| lp_pick (lp_fixes hn hx') h2 <| lp_pick (lp_judge hn hx') h2 <| lp_pick (lp_learnt hn hx') h2 <| lp_pick (lp_order hn hx') h2 <| lp_pick (lp_ring hn hx') h2 <| lp_pick (lp_cut hn hx') h2 <| lp_pick (lp_least hn hx') h2 <| lp_pick (lp_most hn hx' hB) h2 <| lp_pick (lp_worn hn hx') h2 <| lp_pick (lp_trade hn hx') h2 <| lp_pick (lp_book hn hx') h2 <| lp_pick (lp_undo hn hx') h2 <| lp_pick (lp_image hn hx') h2 <| lp_pick (lp_look hn hx') h2 <|  ⟨O, μ, rfl, h2.up⟩
      obtain ⟨O', μ', m1, m2⟩ := main
      rw [m1, q1100_913, am_cN, nI_add]
      exact ih (bG + 1) (x + 6) O' μ' (by omega) (by omega) m2 (by omega)
