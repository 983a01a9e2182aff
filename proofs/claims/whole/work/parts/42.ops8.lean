variable {bG : Nat}
/-! set -/
def ps_setB (kn k v : Nat) : Nat := ps_dif kn (2 ^ k) ||| v * 2 ^ k
theorem ps_setB_bit {kn k v j : Nat} (hv : v ≤ 1) : (ps_setB kn k v).testBit j = if j = k then decide (v = 1) else kn.testBit j := by
  rw [ps_setB, Nat.testBit_or, ps_dif_bit, Nat.testBit_two_pow]
  rcases (show v = 0 ∨ v = 1 by omega) with rfl | rfl
  · by_cases h : j = k
    · subst h; simp
    · rw [if_neg h, decide_eq_false (fun e => h e.symm)]; simp
  · rw [Nat.one_mul, Nat.testBit_two_pow]
    by_cases h : j = k
    · subst h; simp
    · rw [if_neg h, decide_eq_false (fun e => h e.symm)]; simp
theorem ps_setB_lt {kn k v w : Nat} (hk : k < w) (hv : v ≤ 1) (h : kn < 2 ^ w) : ps_setB kn k v < 2 ^ w := by
  refine Nat.or_lt_two_pow (ps_dif_lt h) ?_
  rcases (show v = 0 ∨ v = 1 by omega) with rfl | rfl
  · rw [Nat.zero_mul]; exact Nat.two_pow_pos _
  · rw [Nat.one_mul]; exact Nat.pow_lt_pow_right (by omega) hk
def ps_setL (S : ps_S) (v : Nat) : ps_S := (S.w, S.mk, S.kn, v, S.chg, S.ed, S.sta, S.n, S.hd, S.ct, S.us, S.bn, S.bk, S.law)
def ps_setC (S : ps_S) (v : Nat) : ps_S := (S.w, S.mk, S.kn, S.lim, v, S.ed, S.sta, S.n, S.hd, S.ct, S.us, S.bn, S.bk, S.law)
def ps_setK (S : ps_S) (k v : Nat) : ps_S := (S.w, S.mk, ps_setB S.kn k v, S.lim, S.chg, S.ed, S.sta, S.n, S.hd, S.ct, S.us, S.bn, S.bk, S.law)
def ps_setM (S : ps_S) (k v : Nat) : ps_S := (S.w, ps_fu S.mk k v, S.kn, S.lim, S.chg, S.ed, S.sta, S.n, S.hd, S.ct, S.us, S.bn, S.bk, S.law)
def ps_set (O : ps_O) (x k v : Int32) : Bool × ps_O :=
  if x = am_c 0 then (if 1 ≤ am_ix v ∧ am_ix v ≤ 3 then (true, O.fg (ps_setL O.S (am_ix v))) else (false, O))
  else if x = am_c 1 then (if 0 ≤ am_ix v ∧ am_ix v ≤ 1000 then (true, O.fg (ps_setC O.S (am_ix v))) else (false, O))
  else if x = am_c 2 then (if am_ix k < O.S.w ∧ am_ix v ≤ 1 then (true, O.fg (ps_setK O.S (am_ix k) (am_ix v))) else (false, O))
  else if x = am_c 3 then (if am_ix k < O.S.w ∧ 1 ≤ am_ix v ∧ am_ix v ≤ 1023 then (true, O.fg (ps_setM O.S (am_ix k) (am_ix v))) else (false, O))
  else (false, O)
section Ops8
variable {S : ps_S} {μ : am_Mem}
theorem ps_Rc.lim (h : ps_Rc 1 S μ) (v : Nat) : ps_Rc 1 (ps_setL S v) (am_up (am_up μ 1 1 (nI v)) 37 4 (am_c 0)) := by
  obtain ⟨r1, r2, r3, r4, r5, r6, r7, r8, r9, r10, r11, r12, r13⟩ := h
  refine ⟨?_, ?_, ?_, ?_, ?_, ?_, ?_, ?_, ?_, ?_, ?_, ?_, ?_⟩
  all_goals first
    | (rw [am_upK (by omega), am_upI (by omega)]; assumption)
    | (rw [am_upK (by omega), am_upS]; rfl)
    | (intro k hk; rw [am_upK (by omega), am_upK (by omega)]; first | exact r2 k hk | exact r9 k hk | exact r10 k hk)
    | (intro k i hk hi; rw [am_upK (by omega), am_upK (by omega)]; first | exact r11 k i hk hi | exact r13 k i hk hi)
theorem ps_Rc.chg (h : ps_Rc 1 S μ) (v : Nat) : ps_Rc 1 (ps_setC S v) (am_up (am_up μ 1 2 (nI v)) 37 4 (am_c 0)) := by
  obtain ⟨r1, r2, r3, r4, r5, r6, r7, r8, r9, r10, r11, r12, r13⟩ := h
  refine ⟨?_, ?_, ?_, ?_, ?_, ?_, ?_, ?_, ?_, ?_, ?_, ?_, ?_⟩
  all_goals first
    | (rw [am_upK (by omega), am_upI (by omega)]; assumption)
    | (rw [am_upK (by omega), am_upS]; rfl)
    | (intro k hk; rw [am_upK (by omega), am_upK (by omega)]; first | exact r2 k hk | exact r9 k hk | exact r10 k hk)
    | (intro k i hk hi; rw [am_upK (by omega), am_upK (by omega)]; first | exact r11 k i hk hi | exact r13 k i hk hi)
theorem ps_Rc.knw (h : ps_Rc 1 S μ) (k v : Nat) : ps_Rc 1 (ps_setK S k v) (am_up (am_up μ 1 6 (nI (ps_setB S.kn k v))) 37 4 (am_c 0)) := by
  obtain ⟨r1, r2, r3, r4, r5, r6, r7, r8, r9, r10, r11, r12, r13⟩ := h
  refine ⟨?_, ?_, ?_, ?_, ?_, ?_, ?_, ?_, ?_, ?_, ?_, ?_, ?_⟩
  all_goals first
    | (rw [am_upK (by omega), am_upI (by omega)]; assumption)
    | (rw [am_upK (by omega), am_upS]; rfl)
    | (intro k hk; rw [am_upK (by omega), am_upK (by omega)]; first | exact r2 k hk | exact r9 k hk | exact r10 k hk)
    | (intro k i hk hi; rw [am_upK (by omega), am_upK (by omega)]; first | exact r11 k i hk hi | exact r13 k i hk hi)
theorem ps_Rc.mrk (h : ps_Rc 1 S μ) (k v : Nat) : ps_Rc 1 (ps_setM S k v) (am_up (am_up μ 2 k (nI v)) 37 4 (am_c 0)) := by
  obtain ⟨r1, r2, r3, r4, r5, r6, r7, r8, r9, r10, r11, r12, r13⟩ := h
  refine ⟨?_, ?_, ?_, ?_, ?_, ?_, ?_, ?_, ?_, ?_, ?_, ?_, ?_⟩
  · rw [am_upK (by omega), am_upK (by omega)]; exact r1
  · intro j hj
    show am_up (am_up μ 2 k (nI v)) 37 4 _ 2 j = nI (ps_fu S.mk k v j)
    rw [am_upK (by omega)]
    by_cases hjk : j = k
    · rw [hjk, am_upS, ps_fu_at]
    · rw [am_upI hjk, ps_fu_ne hjk]; exact r2 j hj
  all_goals first
    | (rw [am_upK (by omega), am_upK (by omega)]; assumption)
    | (intro k hk; rw [am_upK (by omega), am_upK (by omega)]; first | exact r9 k hk | exact r10 k hk)
    | (intro k i hk hi; rw [am_upK (by omega), am_upK (by omega)]; first | exact r11 k i hk hi | exact r13 k i hk hi)
end Ops8
theorem C_set (d : Nat) (O : ps_O) (hO : ps_Ow O) (x k v : Int32) : ps_sC bG (d + 3) 903 [.ref 0, .int x, .int k, .int v] O (some (.int (nI (ps_set O x k v).1.toNat))) (ps_set O x k v).2 := by
  intro μ h
  have hR := h.1
  have hW := hO.1
  have h16 : O.S.w ≤ 16 := hW.1
  have hkn : O.S.kn < 2 ^ O.S.w := hW.2.2.1
  have hk2 : 2 ^ O.S.w ≤ 2 ^ 16 := Nat.pow_le_pow_right (by omega) h16
  have r1 : μ 1 4 = nI O.S.w := hR.1
  have r3 : μ 1 6 = nI O.S.kn := hR.2.2.1
  -- the two ends
  have no : ∀ x4 : Value, am_ev (am_call (d + 2)) 903 77 [.ref 0, .int x, .int k, .int v, .int (am_c 0)] [] μ = am_ret (some (.int (nI 0))) μ := by
    intro _
    rw [q903_77, if_pos (by decide), q903_89, am_gbt0]; rfl
  have yes : ∀ μ1 : am_Mem, am_ev (am_call (d + 2)) 903 77 [.ref 0, .int x, .int k, .int v, .int (am_c 1)] [] μ1 = am_ret (some (.int (nI 1))) (am_up μ1 37 4 (am_c 0)) := by
    intro μ1
    rw [q903_77, if_neg (by decide), c401 (d + 1), am_bV_ret, q903_89, am_gbt1]; rfl
  have fin : ∀ (K i : Nat) (y : Int32) (S' : ps_S), ps_Rc 1 S' (am_up (am_up μ K i y) 37 4 (am_c 0)) → S'.law = O.S.law → (K = 1 ∨ K = 2) → ∃ μ', am_ret (some (.int (nI 1))) (am_up (am_up μ K i y) 37 4 (am_c 0)) = am_ret (some (.int (nI (true, O.fg S').1.toNat))) μ' ∧ ps_Ic bG (true, O.fg S').2 μ' ∧ ps_kC μ μ' := by
    intro K i y S' g1 g2 g3
    exact ⟨_, rfl, h.fg g1 g2 (fun K' h1 h2 _ _ _ _ h7 => by rw [am_up_ne h7, am_up_ne (by rcases g3 with rfl | rfl <;> assumption)]) (by rw [am_upS]; rfl) (by rw [am_upI (by omega), am_upK (by omega)]), ps_kC.up (ps_kC.up ps_kC.rf (by omega)) (by omega)⟩
  have stay : ∃ μ', am_ret (some (.int (nI 0))) μ = am_ret (some (.int (nI (false, O).1.toNat))) μ' ∧ ps_Ic bG (false, O).2 μ' ∧ ps_kC μ μ' := ⟨μ, rfl, h, ps_kC.rf⟩
  rw [e903, q903_0, ps_set]
  by_cases x0 : x = am_c 0
  · have e := am_rngB v (a := 1) (b := 3) (by omega) (by omega) (am_ret (some (.int (am_c 0))) μ) (am_ret (some (.int (am_c 1))) (am_up μ 1 1 v))
    rw [if_pos x0, if_pos x0, q903_32, e929, q929_0, q929_10, q929_12, show (if v < am_c 1 then am_ret (some (.int (am_c 0))) μ else if v ≤ am_c 3 then am_ret (some (.int (am_c 1))) (am_up μ 1 1 v) else am_ret (some (.int (am_c 0))) μ) = _ from e]
    by_cases hc : 1 ≤ am_ix v ∧ am_ix v ≤ 3
    · rw [if_pos hc, if_pos hc, am_bI_ret, yes]
      exact fin 1 1 v _ (by have := hR.lim (am_ix v); rwa [am_nIx] at this) rfl (Or.inl rfl)
    · rw [if_neg hc, if_neg hc, am_bI_ret, no .null]
      exact stay
  rw [if_neg x0, if_neg x0]
  by_cases x1 : x = am_c 1
  · have e := am_rngB v (a := 0) (b := 1000) (by omega) (by omega) (am_ret (some (.int (am_c 0))) μ) (am_ret (some (.int (am_c 1))) (am_up μ 1 2 v))
    rw [if_pos x1, if_pos x1, q903_42, e930, q930_0, q930_11, q930_13, show (if v < 0 then am_ret (some (.int (am_c 0))) μ else if v ≤ am_c 1000 then am_ret (some (.int (am_c 1))) (am_up μ 1 2 v) else am_ret (some (.int (am_c 0))) μ) = _ from e]
    by_cases hc : 0 ≤ am_ix v ∧ am_ix v ≤ 1000
    · rw [if_pos hc, if_pos hc, am_bI_ret, yes]
      exact fin 1 2 v _ (by have := hR.chg (am_ix v); rwa [am_nIx] at this) rfl (Or.inl rfl)
    · rw [if_neg hc, if_neg hc, am_bI_ret, no .null]
      exact stay
  rw [if_neg x1, if_neg x1]
  by_cases x2 : x = am_c 2
  · rw [if_pos x2, if_pos x2, q903_52, e931, q931_0, c702 d r1 h16, am_bI_ret, q931_20]
    by_cases hk : am_ix k < O.S.w
    · have e := am_rngB v (a := 0) (b := 1) (by omega) (by omega) (am_ret (some (.int (am_c 0))) μ) (am_ev (am_call (d + 1)) 931 22 [.ref 0, .int k, .int v] [] μ)
      rw [decide_eq_true hk, if_neg (by decide), show (if v < 0 then am_ret (some (.int (am_c 0))) μ else if v ≤ am_c 1 then am_ev (am_call (d + 1)) 931 22 [.ref 0, .int k, .int v] [] μ else am_ret (some (.int (am_c 0))) μ) = _ from e]
      by_cases hv : am_ix v ≤ 1
      · rw [if_pos ⟨by omega, hv⟩, if_pos ⟨hk, hv⟩, q931_22, am_bI_ret, yes, r3]
        obtain ⟨a, ha, rfl⟩ : ∃ j, j < O.S.w ∧ k = nI j := ⟨am_ix k, hk, (am_nIx k).symm⟩
        obtain ⟨b, hb, rfl⟩ : ∃ j, j ≤ 1 ∧ v = nI j := ⟨am_ix v, hv, (am_nIx v).symm⟩
        have h2 : 2 ^ a ≤ 2 ^ 16 := Nat.pow_le_pow_right (by omega) (by omega)
        have h3 : b * 2 ^ a ≤ 1 * 2 ^ a := Nat.mul_le_mul_right _ hb
        rw [show am_c 1 = nI 1 from rfl, am_shl1 (by omega), am_andn, am_shl (by omega) (by omega), am_or, am_ixN (by omega), am_ixN (by omega)]
        exact fin 1 6 _ _ (hR.knw a b) rfl (Or.inl rfl)
      · rw [if_neg (by omega), if_neg (by omega), am_bI_ret, no .null]
        exact stay
    · rw [decide_eq_false hk, if_pos (by decide), if_neg (fun z => hk z.1), am_bI_ret, no .null]
      exact stay
  rw [if_neg x2, if_neg x2]
  by_cases x3 : x = am_c 3
  · rw [if_pos x3, if_pos x3, q903_63, e932, q932_0, c702 d r1 h16, am_bI_ret, c928 d, am_bI_ret, q932_18]
    by_cases hk : am_ix k < O.S.w
    · rw [decide_eq_true hk, if_neg (by decide)]
      by_cases hv : 1 ≤ am_ix v ∧ am_ix v ≤ 1023
      · rw [decide_eq_true hv, if_neg (by decide), if_pos ⟨hk, hv⟩, q932_20, am_gbI (by omega), am_bI_ret, yes]
        exact fin 2 (am_ix k) v _ (by have := hR.mrk (am_ix k) (am_ix v); rwa [am_nIx v] at this) rfl (Or.inr rfl)
      · rw [decide_eq_false hv, if_pos (by decide), if_neg (fun z => hv z.2), am_bI_ret, no .null]
        exact stay
    · rw [decide_eq_false hk, if_pos (by decide), if_neg (fun z => hk z.1), am_bI_ret, no .null]
      exact stay
  rw [if_neg x3, if_neg x3, q903_74, no .null]
  exact stay
