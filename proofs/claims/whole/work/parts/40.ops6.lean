variable {bG : Nat}
/-! at, book -/
def ps_at (O : ps_O) (x y : Int32) : Int32 := if am_ix x < O.S.n then (if y = am_c 0 then nI (O.S.hd (am_ix x)) else if y = am_c 1 then nI (O.S.ct (am_ix x)) else if y = am_c 2 then nI (ps_fxe O.S (am_ix x)).toNat else if 10 ≤ am_ix y ∧ am_ix y ≤ 9 + O.S.ct (am_ix x) then nI (O.S.us (am_ix x) (am_ix y - 10)) else am_c (-1)) else am_c (-1)
theorem C_at (d : Nat) (O : ps_O) (hO : ps_Ow O) (x y : Int32) : ps_sC bG (d + 5) 913 [.ref 0, .int x, .int y] O (some (.int (ps_at O x y))) O := by
  intro μ h
  have hR := h.1
  have hW := hO.1
  have hn : O.S.n ≤ 12 := hW.2.2.2.2.2.2.1
  obtain ⟨r1, r2, r3, r4, r5, r6, r7, r8, r9, r10, r11, r12, r13⟩ := id h.1
  rw [e913, q913_0, c703 (d + 3) r8 (by omega), am_bI_ret, ps_at]
  by_cases hx : am_ix x < O.S.n
  · obtain ⟨a, ha, rfl⟩ : ∃ k, k < O.S.n ∧ x = nI k := ⟨am_ix x, hx, (am_nIx x).symm⟩
    obtain ⟨a1, a2, a3, a4, a5, a6, a7, -, -⟩ := hW.e ha
    rw [decide_eq_true hx, if_neg (by decide), if_pos hx, am_ixN (by omega), q913_13]
    by_cases y0 : y = am_c 0
    · rw [if_pos y0, if_pos y0, q913_40, am_ixN (by omega), am_gbI (by omega)]
      exact ⟨μ, by rw [show μ 3 a = nI (O.S.hd a) from r9 a ha], h, ps_kC.rf⟩
    rw [if_neg y0, if_neg y0]
    by_cases y1 : y = am_c 1
    · rw [if_pos y1, if_pos y1, q913_50, am_ixN (by omega), am_gbI (by omega)]
      exact ⟨μ, by rw [show μ 4 a = nI (O.S.ct a) from r10 a ha], h, ps_kC.rf⟩
    rw [if_neg y1, if_neg y1]
    by_cases y2 : y = am_c 2
    · obtain ⟨μ', g1, g2⟩ := w717 d hR h.2.1 hW hO.2.1 ha
      rw [if_pos y2, if_pos y2, q913_60, g1, am_bI_ret]
      refine ⟨μ', ?_, h.offl g2 (by decide), ps_kC.off g2 (by decide)⟩
      cases ps_fxe O.S a
      · rw [if_pos (by decide), q913_75, q913_76]; rfl
      · rw [if_neg (by decide), q913_76]; rfl
    rw [if_neg y2, if_neg y2, q913_77]
    refine ⟨μ, ?_, h, ps_kC.rf⟩
    by_cases hlt : y < am_c 10
    · rw [if_pos hlt, q913_98, q913_99]
      have hlt : y < nI 10 := hlt
      rw [am_lt_ix (by omega)] at hlt
      rw [if_neg (by omega)]
    · rw [if_neg hlt]
      have hlt : ¬ y < nI 10 := hlt
      rw [am_lt_ix (by omega)] at hlt
      obtain ⟨b, hb, rfl⟩ : ∃ k, k = am_ix y ∧ y = nI k := ⟨am_ix y, rfl, (am_nIx y).symm⟩
      rw [am_ixN (by omega)] at hlt ⊢
      have hct : μ 4 a = nI (O.S.ct a) := r10 a ha
      rw [show nI b - am_c 10 = nI (b - 10) from pk_sub (b := 10) (by omega), e710, q710_0, if_neg (nI_pos (by omega)), am_ixN (by omega), am_gbI (by omega), hct, q710_27]
      by_cases hc : b ≤ 9 + O.S.ct a
      · rw [if_neg (by rw [am_leN (by omega) (by omega)]; omega), if_pos ⟨by omega, hc⟩, show nI a * am_c 3 + nI (b - 10) = nI (a * 3 + (b - 10)) by rw [am_cN, pk_mul, nI_add], am_ixN (by omega), am_gbI (by omega), q710_28, am_bI_ret, q913_99, show μ 5 (a * 3 + (b - 10)) = nI (O.S.us a (b - 10)) from r11 a _ ha (by omega)]
      · rw [if_pos (by rw [am_leN (by omega) (by omega)]; omega), if_neg (by omega), q710_28, am_bI_ret, q913_99]
  · rw [decide_eq_false hx, if_pos (by decide), if_neg hx]
    exact ⟨μ, rfl, h, ps_kC.rf⟩
theorem M_at (d : Nat) (O : ps_O) (hO : ps_Ow O) (x y : Int32) : ps_sM (d + 5) 1055 [.ref 56, .int x, .int y] O (some (.int (ps_at O x y))) O := by
  intro μ h
  have hR := h.1
  have hW := hO.1
  have hn : O.S.n ≤ 12 := hW.2.2.2.2.2.2.1
  obtain ⟨r1, r2, r3, r4, r5, r6, r7, r8, r9, r10, r11, r12, r13⟩ := id h.1
  rw [e1055, q1055_0, m1003 (d + 2) r8 (by omega), am_bI_ret, ps_at]
  by_cases hx : am_ix x < O.S.n
  · obtain ⟨a, ha, rfl⟩ : ∃ k, k < O.S.n ∧ x = nI k := ⟨am_ix x, hx, (am_nIx x).symm⟩
    obtain ⟨a1, a2, a3, a4, a5, a6, a7, -, -⟩ := hW.e ha
    have e1 : 45 + 5 * a + 1 = 46 + 5 * a := by omega
    rw [decide_eq_true hx, if_neg (by decide), if_pos hx, am_ixN (by omega), q1055_10]
    by_cases y0 : y = am_c 0
    · rw [if_pos y0, if_pos y0, q1055_36, show am_c 0 = nI 0 from rfl, m1005 (d + 3) (by omega), am_bI_ret]
      exact ⟨μ, by rw [show μ 57 (45 + 5 * a + 0) = nI (O.S.hd a) from r9 a ha], h, ps_kM.rf⟩
    rw [if_neg y0, if_neg y0]
    by_cases y1 : y = am_c 1
    · rw [if_pos y1, if_pos y1, q1055_43, show am_c 1 = nI 1 from rfl, m1005 (d + 3) (by omega), am_bI_ret, e1]
      exact ⟨μ, by rw [r10 a ha], h, ps_kM.rf⟩
    rw [if_neg y1, if_neg y1]
    by_cases y2 : y = am_c 2
    · obtain ⟨μ', g1, g2⟩ := v1045 d hR h.2.1 hW hO.2.1 ha
      rw [if_pos y2, if_pos y2, q1055_50, g1, am_bI_ret]
      refine ⟨μ', ?_, h.offl g2 (by decide), ps_kM.off g2 (by decide)⟩
      cases ps_fxe O.S a
      · rw [if_pos (by decide), q1055_62, q1055_63]; rfl
      · rw [if_neg (by decide), q1055_63]; rfl
    rw [if_neg y2, if_neg y2, q1055_64]
    refine ⟨μ, ?_, h, ps_kM.rf⟩
    rw [show am_c 1 = nI 1 from rfl, m1005 (d + 3) (by omega), am_bI_ret, e1, r10 a ha, show am_c 10 = nI 10 from rfl, show am_c 9 = nI 9 from rfl, nI_add, m1001c (d + 3) y (by omega) (by omega), am_bI_ret]
    by_cases hc : 10 ≤ am_ix y ∧ am_ix y ≤ 9 + O.S.ct a
    · rw [decide_eq_true hc, if_neg (by decide), if_pos hc]
      obtain ⟨b, hb, rfl⟩ : ∃ k, k = am_ix y ∧ y = nI k := ⟨am_ix y, rfl, (am_nIx y).symm⟩
      rw [← hb] at hc ⊢
      rw [show am_c 2 = nI 2 from rfl, nI_add, pk_sub (by omega), m1005 (d + 3) (by omega), am_bI_ret, q1055_97, show 45 + 5 * a + (2 + b - 10) = 47 + 5 * a + (b - 10) by omega, r11 a _ ha (by omega)]
    · rw [decide_eq_false hc, if_pos (by decide), if_neg hc, q1055_96, q1055_97]
  · rw [decide_eq_false hx, if_pos (by decide), if_neg hx]
    exact ⟨μ, rfl, h, ps_kM.rf⟩
