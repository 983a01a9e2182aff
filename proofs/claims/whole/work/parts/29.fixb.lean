/-! Told.fixedBy, isFixed -/
theorem c718_5 (C : am_Ct) {μ : am_Mem} {w set : Nat} {head : Int32} {mk : Nat → Nat} (hw : μ 1 4 = nI w) (hw16 : w ≤ 16) (hm : ∀ k, k < w → μ 2 k = nI (mk k)) (hs : set < 2147483648) : ∀ k i, i + k = w →
    am_ev C 718 5 [.ref 1, .int head, .int (nI set), .int (nI (ps_ors mk set i)), .int (nI i)] [] μ = am_ev C 718 39 [.ref 1, .int head, .int (nI set), .int (nI (ps_ors mk set w)), .int (nI w)] [] μ
  | 0, i, h => by
    have h : i = w := by omega
    subst h
    rw [q718_5, hw, if_pos (by rw [am_leN (by omega) (by omega)]; exact Nat.le_refl _)]
  | k + 1, i, h => by
    have ih := c718_5 C (head := head) hw hw16 hm hs k (i + 1) (by omega)
    rw [q718_5, hw, if_neg (by rw [am_leN (by omega) (by omega)]; omega), am_cN, am_bit (by omega) hs, am_ixN (by omega), am_gbI (by omega), hm i (by omega), am_or]
    rw [ps_ors] at ih
    simp only [am_b0, q718_33, am_cN, nI_add]
    cases hb : set.testBit i with
    | true =>
      rw [hb] at ih
      simpa using ih
    | false =>
      rw [hb] at ih
      simpa using ih
theorem c718 (d : Nat) {μ : am_Mem} {w set head : Nat} {mk : Nat → Nat} {law : List (Bool × List (Nat × Nat))} (hw : μ 1 4 = nI w) (hw16 : w ≤ 16) (hm : ∀ k, k < w → μ 2 k = nI (mk k)) (hm2 : ∀ k, k < w → mk k ≤ 1023) (hs : set < 2 ^ w) (hh : head < w) (hL : ps_Lc 7 law μ) (hlw : ps_Lw law) :
    ∃ μ', am_call (d + 3) 718 [.ref 1, .int (nI head), .int (nI set)] μ = am_ret (some (.int (nI (ps_says (ps_envv w mk head set) law).toNat))) μ' ∧ ps_off [11, 12] μ μ' := by
  have hs16 : set < 65536 := Nat.lt_of_lt_of_le hs (Nat.pow_le_pow_right (by omega) hw16 : 2 ^ w ≤ 2 ^ 16)
  have hall : ps_ors mk set w < 1024 := ps_ors_lt (b := 10) (fun k hk => by have := hm2 k hk; omega)
  have hmh := hm2 head hh
  have hout : set ||| 2 ^ head < 65536 := Nat.or_lt_two_pow (n := 16) hs16 (Nat.pow_lt_pow_right (by omega) (by omega))
  have b1 : (mk head &&& ps_ors mk set w) < 65536 := Nat.lt_of_le_of_lt Nat.and_le_left (by omega)
  have b2 : ps_dif (mk head) (ps_ors mk set w) < 65536 := ps_dif_lt (n := 16) (by omega)
  have b3 : ps_dif (ps_ors mk set w) (mk head) < 65536 := ps_dif_lt (n := 16) (by omega)
  have step := c718_5 (am_call (d + 2)) (head := nI head) hw hw16 hm (set := set) (by omega) w 0 (by omega)
  have step : am_ev (am_call (d + 2)) 718 5 [.ref 1, .int (nI head), .int (nI set), .int (am_c 0), .int (am_c 0)] [] μ = _ := step
  rw [e718, q718_0, step, q718_39, am_ixN (by omega), am_gbI (by omega), hm head hh, am_and, c1200 (d + 1) b1, am_bI_ret, am_cN, c102 (d + 1) (by omega) (by omega), am_bV_ret, am_gbI (by omega), am_upK (by omega), hm head hh, am_andn, c1200 (d + 1) b2, am_bI_ret, am_cN, c102 (d + 1) (by omega) (by omega), am_bV_ret,
    am_gbI (by omega), am_upK (by omega), am_upK (by omega), hm head hh, am_andn, c1200 (d + 1) b3, am_bI_ret, am_cN, c102 (d + 1) (by omega) (by omega), am_bV_ret, c1200 (d + 1) hs16, am_bI_ret, am_cN, c102 (d + 1) (by omega) (by omega), am_bV_ret, am_cN, am_shl1 (by omega), am_or,
    c719 (d + 1) (w := w) (mk := mk) (by simp only [am_upK (show (1 : Nat) ≠ 11 by omega)]; exact hw) hw16 (fun k hk => by simp only [am_upK (show (2 : Nat) ≠ 11 by omega)]; exact hm k hk) hm2 (by omega), am_bI_ret, am_cN, c102 (d + 1) (by omega) (by omega), am_bV_ret, am_cN, c102 (d + 1) (by omega) (by omega), am_bV_ret]
  generalize hμ : am_up (am_up (am_up (am_up (am_up (am_up μ 11 _ _) 11 _ _) 11 _ _) 11 _ _) 11 _ _) 11 _ _ = μ1
  have hoff : ps_off [11, 12] μ μ1 := by
    rw [← hμ]
    exact ps_off.up (ps_off.up (ps_off.up (ps_off.up (ps_off.up (ps_off.up ps_off.rf (by simp)) (by simp)) (by simp)) (by simp)) (by simp)) (by simp)
  have henv : ∀ k, 1 ≤ k → k ≤ 6 → μ1 11 (k - 1) = ps_envv w mk head set k := by
    intro k k1 k2
    rw [← hμ]
    rcases (show k = 1 ∨ k = 2 ∨ k = 3 ∨ k = 4 ∨ k = 5 ∨ k = 6 by omega) with rfl | rfl | rfl | rfl | rfl | rfl <;> simp [am_up, ps_envv]
  have hL1 : ps_Lc 7 law μ1 := ⟨by rw [hoff 7 (by simp)]; exact hL.1, fun l q h => by
    obtain ⟨a1, a2, a3, a4⟩ := hL.2 l q h
    exact ⟨by rw [hoff 8 (by simp)]; exact a1, by rw [hoff 9 (by simp)]; exact a2, by rw [hoff 9 (by simp)]; exact a3, a4.off (hoff 10 (by simp))⟩⟩
  obtain ⟨μ2, g1, g2⟩ := c103 d (ps_envv w mk head set) hlw hL1 henv
  refine ⟨μ2, ?_, hoff.tr (g2.mono (fun K hK => by simp at hK; subst hK; simp))⟩
  rw [g1, am_bI_ret]
  cases ps_says (ps_envv w mk head set) law <;> rfl
