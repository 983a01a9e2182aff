variable {bG : Nat}
/-! book -/
def ps_book (O : ps_O) (x y : Int32) : Int32 := if am_ix x < O.S.bn ∧ am_ix y < 4 then nI (O.S.bk (am_ix x) (am_ix y)) else am_c (-1)
theorem C_book (d : Nat) (O : ps_O) (hO : ps_Ow O) (x y : Int32) : ps_sC bG (d + 1) 924 [.ref 0, .int x, .int y] O (some (.int (ps_book O x y))) O := by
  intro μ h
  have hW := hO.1
  have hb : O.S.bn ≤ 80 := hW.2.2.2.2.2.2.2.2.1
  obtain ⟨r1, r2, r3, r4, r5, r6, r7, r8, r9, r10, r11, r12, r13⟩ := id h.1
  refine ⟨μ, ?_, h, ps_kC.rf⟩
  have e1 := am_rng x (n := O.S.bn) (by omega) (am_ret (some (.int (am_c (-1)))) μ) (if y < (0 : Int32) then am_ret (some (.int (am_c (-1)))) μ else if y < am_c 4 then am_ev (am_call d) 924 26 [.ref 0, .int x, .int y] [] μ else am_ret (some (.int (am_c (-1)))) μ)
  rw [e924, q924_0, r12, q924_24, e1, ps_book]
  by_cases hx : am_ix x < O.S.bn
  · rw [if_pos hx]
    by_cases hy : am_ix y < 4
    · obtain ⟨a, ha, rfl⟩ : ∃ k, k < O.S.bn ∧ x = nI k := ⟨am_ix x, hx, (am_nIx x).symm⟩
      obtain ⟨b, hb4, rfl⟩ : ∃ k, k < 4 ∧ y = nI k := ⟨am_ix y, hy, (am_nIx y).symm⟩
      rw [if_neg (nI_pos (by omega)), if_pos (by show nI b < nI 4; rw [am_ltN (by omega) (by omega)]; exact hb4), if_pos ⟨hx, hy⟩, am_ixN (by omega), am_ixN (by omega), q924_26, show nI a * am_c 4 + nI b = nI (a * 4 + b) by rw [am_cN, pk_mul, nI_add], am_ixN (by omega), am_gbI (by omega), show μ 6 (a * 4 + b) = nI (O.S.bk a b) from r13 a b ha hb4]
    · rw [show (if am_ix x < O.S.bn ∧ am_ix y < 4 then nI (O.S.bk (am_ix x) (am_ix y)) else am_c (-1)) = am_c (-1) from if_neg (fun z => hy z.2)]
      rcases am_out (x := y) (n := 4) (by omega) (by omega) with h1 | h1
      · rw [if_pos h1]
      · rw [if_neg (show ¬ y < am_c 4 from Int32.not_lt.mpr h1)]
        split <;> rfl
  · rw [if_neg hx, if_neg (fun z => hx z.1)]
theorem M_book (d : Nat) (O : ps_O) (hO : ps_Ow O) (x y : Int32) : ps_sM (d + 2) 1077 [.ref 56, .int x, .int y] O (some (.int (ps_book O x y))) O := by
  intro μ h
  have hW := hO.1
  have hb : O.S.bn ≤ 80 := hW.2.2.2.2.2.2.2.2.1
  obtain ⟨r1, r2, r3, r4, r5, r6, r7, r8, r9, r10, r11, r12, r13⟩ := id h.1
  refine ⟨μ, ?_, h, ps_kM.rf⟩
  rw [e1077, q1077_0, r12, show am_c 0 = nI 0 from rfl, show am_c 1 = nI 1 from rfl, show am_c 3 = nI 3 from rfl, m1001n d x (by omega), am_bI_ret, m1001c d y (by omega) (by omega), am_bI_ret, q1077_41, q1077_42, ps_book]
  by_cases hx : am_ix x < O.S.bn
  · rw [decide_eq_true hx, if_neg (by decide)]
    by_cases hy : am_ix y < 4
    · obtain ⟨a, ha, rfl⟩ : ∃ k, k < O.S.bn ∧ x = nI k := ⟨am_ix x, hx, (am_nIx x).symm⟩
      obtain ⟨b, hb4, rfl⟩ : ∃ k, k < 4 ∧ y = nI k := ⟨am_ix y, hy, (am_nIx y).symm⟩
      rw [decide_eq_true (by omega), if_neg (by decide), if_pos ⟨hx, hy⟩, am_ixN (show a < 4294967296 by omega), am_ixN (show b < 4294967296 by omega), show am_c 110 + am_c 4 * nI a + nI b = nI (110 + 4 * a + b) by rw [am_cN, am_cN, pk_mul, nI_add, nI_add], am_ixN (by omega), am_gbI (by omega), q1077_42, r13 a b ha hb4]
    · rw [decide_eq_false (by omega), if_pos (by decide), if_neg (fun z => hy z.2)]
  · rw [decide_eq_false hx, if_pos (by decide), if_neg (fun z => hx z.1)]
