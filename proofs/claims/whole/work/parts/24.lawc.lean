/-! the component's signs -/
def ps_binC (j : Nat) (a b : Int32) : Int32 := match j with
  | 16 => a + b
  | 17 => a - b
  | 18 => a * b
  | 19 => a / b
  | 22 => if a < b then 1 else 0
  | 23 => if a = b then 1 else 0
  | 24 => if b < a then 1 else 0
  | 7 => a &&& b
  | _ => a ||| b
theorem c104n (d : Nat) {n h : Nat} (hn : n ≤ 9999) (hh : h < 32) (μ : am_Mem) : am_call (d + 1) 104 [.ref 7, .int (nI n), .int (nI h)] μ = am_ret (some (.int (nI (h + 1)))) (am_up μ 12 h (nI n)) := by
  have hneg : nI n - am_c 10000 < 0 := pk_sneg (b := 10000) (by omega) (by omega)
  have hnn : ¬ (0 : Int32) ≤ nI n - am_c 10000 := Int32.not_le.mpr hneg
  rw [e104, q104_0, if_pos hneg, q104_22, if_pos (by show nI h < nI 32; rw [am_ltN (by omega) (by omega)]; exact hh), q104_33, if_neg hnn, q104_55]
  simp (disch := omega) only [am_cN, am_ixN, am_gbI, nI_add]
theorem c104v (d : Nat) {j h : Nat} (h1 : 9 ≤ j) (h2 : j ≤ 14) (hh : h < 32) (μ : am_Mem) : am_call (d + 1) 104 [.ref 7, .int (nI (10000 + j)), .int (nI h)] μ = am_ret (some (.int (nI (h + 1)))) (am_up μ 12 h (μ 11 (j - 9))) := by
  have e : nI (10000 + j) - am_c 10000 = nI j := by rw [am_cN, pk_sub (by omega), Nat.add_sub_cancel_left]
  have e9 : nI j - am_c 9 = nI (j - 9) := by rw [am_cN, pk_sub (by omega)]
  rw [e104, q104_0, e, if_neg (nI_pos (by omega)), if_neg (by rw [am_cN, am_ltN (by omega) (by omega)]; omega), if_neg (by rw [am_cN, am_ltN (by omega) (by omega)]; omega), q104_22, if_pos (by show nI h < nI 32; rw [am_ltN (by omega) (by omega)]; exact hh), q104_33, if_pos (nI_pos' (by omega)), q104_46, e9]
  simp (disch := omega) only [am_ixN, am_gbI]
  rw [q104_55]
  simp (disch := omega) only [am_cN, am_ixN, am_gbI, nI_add]
theorem c104t (d : Nat) {h : Nat} (h1 : h < 32) {μ : am_Mem} {a : Int32} (ha : μ 12 h = a) : am_call (d + 1) 104 [.ref 7, .int (nI 10008), .int (nI (h + 1))] μ = am_ret (some (.int (nI (h + 1)))) (am_up μ 12 h (1 - a)) := by
  have e : nI 10008 - am_c 10000 = nI 8 := by decide
  have e1 : nI (h + 1) - am_c 1 = nI h := nI_pred _
  rw [e104, q104_0, e, if_neg (by decide), if_pos (by decide), q104_60, if_pos (by decide), if_neg (by rw [am_cN, am_ltN (by omega) (by omega)]; omega), e1]
  simp (disch := omega) only [am_ixN, am_gbI, ha]
  rfl
set_option maxHeartbeats 4000000 in
theorem c104b (d : Nat) {j h : Nat} (hj : j = 16 ∨ j = 17 ∨ j = 18 ∨ j = 19 ∨ j = 22 ∨ j = 23 ∨ j = 24 ∨ j = 7 ∨ j = 6) (h1 : h + 2 ≤ 32) {μ : am_Mem} {a b : Int32} (ha : μ 12 h = a) (hb : μ 12 (h + 1) = b) (hp : j = 19 → ¬ b = 0) : am_call (d + 1) 104 [.ref 7, .int (nI (10000 + j)), .int (nI (h + 2))] μ = am_ret (some (.int (nI (h + 1)))) (am_up μ 12 h (ps_binC j a b)) := by
  have hjl : j ≤ 24 := by omega
  have e : nI (10000 + j) - am_c 10000 = nI j := by rw [am_cN, pk_sub (by omega), Nat.add_sub_cancel_left]
  have e1 : nI (h + 2) - am_c 1 = nI (h + 1) := nI_pred _
  have e2 : nI (h + 2) - am_c 2 = nI h := by rw [am_cN, pk_sub (by omega), Nat.add_sub_cancel]
  have h91 : ∀ x4 x5 x6 : Value, am_ev (am_call d) 104 91 [.ref 7, .int (nI (10000 + j)), .int (nI (h + 2)), .int (nI j), x4, x5, x6] [] μ = am_ret (some (.int (nI (h + 1)))) (am_up μ 12 h (ps_binC j a b)) := by
    intro x4 x5 x6
    have fin : ∀ x : Int32, am_ev (am_call d) 104 321 [.ref 7, .int (nI (10000 + j)), .int (nI (h + 2)), .int (nI j), .int a, .int b, .int x] [] μ = am_ret (some (.int (nI (h + 1)))) (am_up μ 12 h x) := by
      intro x
      rw [q104_321, e1, e2]
      simp (disch := omega) only [am_ixN, am_gbI]
    rw [q104_91, if_pos (by rw [am_cN, am_leN (by omega) (by omega)]; omega), q104_98, e1, e2]
    rw [am_ixN (by omega), am_gbI (by omega), am_ixN (by omega), am_gbI (by omega), ha, hb]
    rcases hj with rfl | rfl | rfl | rfl | rfl | rfl | rfl | rfl | rfl
    · rw [if_neg (by decide), if_neg (by decide), if_neg (by decide), if_neg (by decide), if_neg (by decide), if_neg (by decide), if_neg (by decide), if_neg (by decide), if_neg (by decide), if_pos (by decide)]
      rw [q104_204, fin]; rfl
    · rw [if_neg (by decide), if_neg (by decide), if_neg (by decide), if_neg (by decide), if_neg (by decide), if_neg (by decide), if_neg (by decide), if_neg (by decide), if_neg (by decide), if_neg (by decide), if_pos (by decide)]
      rw [q104_214, fin]; rfl
    · rw [if_neg (by decide), if_neg (by decide), if_neg (by decide), if_neg (by decide), if_neg (by decide), if_neg (by decide), if_neg (by decide), if_neg (by decide), if_neg (by decide), if_neg (by decide), if_neg (by decide), if_pos (by decide)]
      rw [q104_224, fin]; rfl
    · rw [if_neg (by decide), if_neg (by decide), if_neg (by decide), if_neg (by decide), if_neg (by decide), if_neg (by decide), if_neg (by decide), if_neg (by decide), if_neg (by decide), if_neg (by decide), if_neg (by decide), if_neg (by decide), if_pos (by decide)]
      have hb0 : 0 < am_ix b := by
        rcases Nat.eq_zero_or_pos (am_ix b) with h0 | h0
        · exfalso
          apply hp rfl
          rw [← am_nIx b, h0]
          rfl
        · exact h0
      rw [q104_234, if_neg (hp rfl), q104_243, am_gb0 hb0, q104_248, fin]; rfl
    · rw [if_neg (by decide), if_neg (by decide), if_neg (by decide), if_neg (by decide), if_neg (by decide), if_neg (by decide), if_neg (by decide), if_neg (by decide), if_neg (by decide), if_neg (by decide), if_neg (by decide), if_neg (by decide), if_neg (by decide), if_neg (by decide), if_neg (by decide), if_pos (by decide)]
      rw [q104_253, q104_264, q104_265, q104_265, fin, fin]
      by_cases hc : a < b
      · rw [if_neg (Int32.not_le.mpr hc)]; simp only [ps_binC, if_pos hc]; rfl
      · rw [if_pos (Int32.not_lt.mp hc)]; simp only [ps_binC, if_neg hc]; rfl
    · rw [if_neg (by decide), if_neg (by decide), if_neg (by decide), if_neg (by decide), if_neg (by decide), if_neg (by decide), if_neg (by decide), if_neg (by decide), if_neg (by decide), if_neg (by decide), if_neg (by decide), if_neg (by decide), if_neg (by decide), if_neg (by decide), if_neg (by decide), if_neg (by decide), if_pos (by decide)]
      rw [q104_270, q104_281, q104_282, q104_282, fin, fin]
      by_cases hc : a = b
      · rw [if_pos hc]; simp only [ps_binC, if_pos hc]; rfl
      · rw [if_neg hc]; simp only [ps_binC, if_neg hc]; rfl
    · rw [if_neg (by decide), if_neg (by decide), if_neg (by decide), if_neg (by decide), if_neg (by decide), if_neg (by decide), if_neg (by decide), if_neg (by decide), if_neg (by decide), if_neg (by decide), if_neg (by decide), if_neg (by decide), if_neg (by decide), if_neg (by decide), if_neg (by decide), if_neg (by decide), if_neg (by decide), if_pos (by decide)]
      rw [q104_287, q104_298, q104_299, q104_299, fin, fin]
      by_cases hc : b < a
      · rw [if_neg (Int32.not_le.mpr hc)]; simp only [ps_binC, if_pos hc]; rfl
      · rw [if_pos (Int32.not_lt.mp hc)]; simp only [ps_binC, if_neg hc]; rfl
    · rw [if_pos (by decide)]
      rw [q104_304, fin]; rfl
    · rw [if_neg (by decide), if_neg (by decide), if_neg (by decide), if_neg (by decide), if_neg (by decide), if_neg (by decide), if_neg (by decide), if_neg (by decide), if_neg (by decide), if_neg (by decide), if_neg (by decide), if_neg (by decide), if_neg (by decide), if_neg (by decide), if_neg (by decide), if_neg (by decide), if_neg (by decide), if_neg (by decide)]
      rw [q104_314, fin]; rfl
  have h60 : ∀ x4 x5 x6 : Value, am_ev (am_call d) 104 60 [.ref 7, .int (nI (10000 + j)), .int (nI (h + 2)), .int (nI j), x4, x5, x6] [] μ = am_ret (some (.int (nI (h + 1)))) (am_up μ 12 h (ps_binC j a b)) := by
    intro x4 x5 x6
    rw [q104_60, if_neg (by rw [am_cN, am_eqN (by omega) (by omega)]; omega)]
    exact h91 _ _ _
  rw [e104, q104_0, e, if_neg (nI_pos (by omega))]
  by_cases hs : j < 9
  · rw [if_pos (by rw [am_cN, am_ltN (by omega) (by omega)]; exact hs)]
    exact h60 _ _ _
  · rw [if_neg (by rw [am_cN, am_ltN (by omega) (by omega)]; exact hs), if_pos (by rw [am_cN, am_ltN (by omega) (by omega)]; omega)]
    exact h60 _ _ _
