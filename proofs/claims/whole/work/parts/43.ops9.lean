/-! set, the model -/
section Ops9
variable {S : ps_S} {μ : am_Mem}
theorem ps_Rm.one (h : ps_Rm 57 S μ) (hW : ps_Wf S) {S' : ps_S} {i : Nat} {y : Int32} (hi : i < 45) (e1 : S'.w = S.w) (e2 : S'.n = S.n) (e3 : S'.hd = S.hd) (e4 : S'.ct = S.ct) (e5 : S'.us = S.us) (e6 : S'.bn = S.bn) (e7 : S'.bk = S.bk)
    (a0 : am_up μ 57 i y 57 0 = nI S'.w) (a1 : am_up μ 57 i y 57 1 = nI S'.n) (a2 : am_up μ 57 i y 57 2 = nI S'.lim) (a3 : am_up μ 57 i y 57 3 = nI S'.chg) (a4 : am_up μ 57 i y 57 4 = nI S'.ed) (a5 : am_up μ 57 i y 57 5 = nI S'.bn) (a6 : am_up μ 57 i y 57 6 = S'.sta)
    (am : ∀ k, k < S'.w → am_up μ 57 i y 57 (10 + k) = nI (S'.mk k)) (ak : ∀ k, k < S'.w → am_up μ 57 i y 57 (26 + k) = nI (S'.kn.testBit k).toNat) (z : Int32) : ps_Rm 57 S' (am_up (am_up μ 57 i y) 56 3 z) := by
  obtain ⟨r1, r2, r3, r4, r5, r6, r7, r8, r9, r10, r11, r12, r13⟩ := h
  have k57 : ∀ j, am_up (am_up μ 57 i y) 56 3 z 57 j = am_up μ 57 i y 57 j := fun j => am_upK (by omega)
  refine ⟨?_, ?_, ?_, ?_, ?_, ?_, ?_, ?_, ?_, ?_, ?_, ?_, ?_⟩
  · rw [k57]; exact a0
  · intro k hk; rw [k57]; exact am k hk
  · intro k hk; rw [k57]; exact ak k hk
  · rw [k57]; exact a2
  · rw [k57]; exact a3
  · rw [k57]; exact a4
  · rw [k57]; exact a6
  · rw [k57]; exact a1
  · intro e he; rw [e2] at he; rw [k57, am_upI (by omega), e3]; exact r9 e he
  · intro e he; rw [e2] at he; rw [k57, am_upI (by omega), e4]; exact r10 e he
  · intro e j he hj; rw [e2] at he; rw [e4] at hj; rw [k57, am_upI (by omega), e5]; exact r11 e j he hj
  · rw [k57]; exact a5
  · intro e j he hj; rw [e6] at he; rw [k57, am_upI (by omega), e7]; exact r13 e j he hj
end Ops9
theorem M_set (d : Nat) (O : ps_O) (hO : ps_Ow O) (x k v : Int32) : ps_sM (d + 3) 1012 [.ref 56, .int x, .int k, .int v] O (some (.int (nI (ps_set O x k v).1.toNat))) (ps_set O x k v).2 := by
  intro μ h
  have hR := h.1
  have hW := hO.1
  have h16 : O.S.w ≤ 16 := hW.1
  obtain ⟨r1, r2, r3, r4, r5, r6, r7, r8, r9, r10, r11, r12, r13⟩ := id h.1
  have yes : ∀ μ1 : am_Mem, am_ev (am_call (d + 2)) 1012 123 [.ref 56, .int x, .int k, .int v] [] μ1 = am_ret (some (.int (nI 1))) (am_up μ1 56 3 (am_c 0)) := by
    intro μ1
    rw [q1012_123, m1008 (d + 1), am_bV_ret]; rfl
  have fin : ∀ (i : Nat) (y : Int32) (S' : ps_S), i < 45 → ps_Rm 57 S' (am_up (am_up μ 57 i y) 56 3 (am_c 0)) → S'.law = O.S.law → ∃ μ', am_ret (some (.int (nI 1))) (am_up (am_up μ 57 i y) 56 3 (am_c 0)) = am_ret (some (.int (nI (true, O.fg S').1.toNat))) μ' ∧ ps_Im (true, O.fg S').2 μ' ∧ ps_kM μ μ' := by
    intro i y S' hi g1 g2
    exact ⟨_, rfl, h.fg g1 g2 (fun j hj => by rw [am_upK (by omega), am_upI (by omega)]) (fun K h1 h2 => by rw [am_up_ne h1, am_up_ne h2]) (by rw [am_upS]; rfl) (fun j hj => by rw [am_upI hj, am_upK (by omega)]), ps_kM.up (ps_kM.up ps_kM.rf (by omega) (by omega)) (by omega) (by omega)⟩
  have stay : ∃ μ', am_ret (some (.int (nI 0))) μ = am_ret (some (.int (nI (false, O).1.toNat))) μ' ∧ ps_Im (false, O).2 μ' ∧ ps_kM μ μ' := ⟨μ, rfl, h, ps_kM.rf⟩
  have h121 : am_ev (am_call (d + 2)) 1012 121 [.ref 56, .int x, .int k, .int v] [] μ = am_ret (some (.int (nI 0))) μ := q1012_121 _ _ _ _ _
  rw [e1012, q1012_0, ps_set]
  by_cases x0 : x = am_c 0
  · subst x0
    have n1 : ¬ (am_c 0 : Int32) = am_c 1 := by decide
    have n2 : ¬ (am_c 0 : Int32) = am_c 2 := by decide
    have n3 : ¬ (am_c 0 : Int32) = am_c 3 := by decide
    rw [if_pos (show (am_c 0 : Int32) = 0 from rfl), if_pos rfl, show am_c 1 = nI 1 from rfl, show am_c 3 = nI 3 from rfl, m1001c (d + 1) v (by omega) (by omega), am_bI_ret]
    by_cases hc : 1 ≤ am_ix v ∧ am_ix v ≤ 3
    · rw [decide_eq_true hc, if_neg (by decide), if_pos hc, yes]
      refine fin 2 v (ps_setL O.S (am_ix v)) (by omega) (hR.one (S' := ps_setL O.S (am_ix v)) (i := 2) (y := v) hW (by omega) rfl rfl rfl rfl rfl rfl rfl ?_ ?_ ?_ ?_ ?_ ?_ ?_ ?_ ?_ _) rfl
      all_goals first
        | (rw [am_upI (by omega)]; assumption)
        | (rw [am_upS]; exact (am_nIx v).symm)
        | (intro j hj; rw [am_upI (by omega)]; first | exact r2 j hj | exact r3 j hj)
    · rw [decide_eq_false hc, if_pos (by decide), if_neg hc, q1012_23, if_neg n1, q1012_49, if_neg n2, q1012_84, if_neg n3, h121]
      exact stay
  rw [if_neg (show ¬ x = 0 from x0), if_neg x0, q1012_23]
  by_cases x1 : x = am_c 1
  · subst x1
    have n2 : ¬ (am_c 1 : Int32) = am_c 2 := by decide
    have n3 : ¬ (am_c 1 : Int32) = am_c 3 := by decide
    rw [if_pos rfl, if_pos rfl, show am_c 0 = nI 0 from rfl, show am_c 1000 = nI 1000 from rfl, m1001c (d + 1) v (by omega) (by omega), am_bI_ret]
    by_cases hc : 0 ≤ am_ix v ∧ am_ix v ≤ 1000
    · rw [decide_eq_true hc, if_neg (by decide), if_pos hc, yes]
      refine fin 3 v (ps_setC O.S (am_ix v)) (by omega) (hR.one (S' := ps_setC O.S (am_ix v)) (i := 3) (y := v) hW (by omega) rfl rfl rfl rfl rfl rfl rfl ?_ ?_ ?_ ?_ ?_ ?_ ?_ ?_ ?_ _) rfl
      all_goals first
        | (rw [am_upI (by omega)]; assumption)
        | (rw [am_upS]; exact (am_nIx v).symm)
        | (intro j hj; rw [am_upI (by omega)]; first | exact r2 j hj | exact r3 j hj)
    · rw [decide_eq_false hc, if_pos (by decide), if_neg hc, q1012_49, if_neg n2, q1012_84, if_neg n3, h121]
      exact stay
  rw [if_neg x1, if_neg x1, q1012_49]
  by_cases x2 : x = am_c 2
  · subst x2
    have n3 : ¬ (am_c 2 : Int32) = am_c 3 := by decide
    rw [if_pos rfl, if_pos rfl, m1002 d r1 h16, am_bI_ret]
    by_cases hk : am_ix k < O.S.w
    · rw [decide_eq_true hk, if_neg (by decide), show am_c 0 = nI 0 from rfl, show am_c 1 = nI 1 from rfl, m1001c (d + 1) v (by omega) (by omega), am_bI_ret]
      by_cases hv : am_ix v ≤ 1
      · obtain ⟨a, ha, rfl⟩ : ∃ j, j < O.S.w ∧ k = nI j := ⟨am_ix k, hk, (am_nIx k).symm⟩
        obtain ⟨b, hb, rfl⟩ : ∃ j, j ≤ 1 ∧ v = nI j := ⟨am_ix v, hv, (am_nIx v).symm⟩
        rw [decide_eq_true ⟨Nat.zero_le _, hv⟩, if_neg (by decide), if_pos ⟨hk, hv⟩, show am_c 26 + nI a = nI (26 + a) from nI_add 26 a, am_ixN (show 26 + a < 4294967296 by omega), am_gbI (by omega), yes, am_ixN (show a < 4294967296 by omega), am_ixN (show b < 4294967296 by omega)]
        refine fin (26 + a) (nI b) (ps_setK O.S a b) (by omega) (hR.one (S' := ps_setK O.S a b) (i := 26 + a) (y := nI b) hW (by omega) rfl rfl rfl rfl rfl rfl rfl ?_ ?_ ?_ ?_ ?_ ?_ ?_ ?_ ?_ _) rfl
        · rw [am_upI (by omega)]; exact r1
        · rw [am_upI (by omega)]; exact r8
        · rw [am_upI (by omega)]; exact r4
        · rw [am_upI (by omega)]; exact r5
        · rw [am_upI (by omega)]; exact r6
        · rw [am_upI (by omega)]; exact r12
        · rw [am_upI (by omega)]; exact r7
        · intro j hj
          have hj : j < O.S.w := hj
          rw [am_upI (by omega)]; exact r2 j hj
        · intro j hj
          have hj : j < O.S.w := hj
          show _ = nI ((ps_setB O.S.kn a b).testBit j).toNat
          rw [ps_setB_bit hb]
          by_cases hja : j = a
          · rw [hja, am_upS, if_pos rfl]
            rcases (show b = 0 ∨ b = 1 by omega) with rfl | rfl <;> rfl
          · rw [if_neg hja, am_upI (by omega)]; exact r3 j hj
      · rw [decide_eq_false (fun z => hv z.2), if_pos (by decide), if_neg (fun z => hv z.2), q1012_84, if_neg n3, h121]
        exact stay
    · rw [decide_eq_false hk, if_pos (by decide), if_neg (fun z => hk z.1), q1012_84, if_neg n3, h121]
      exact stay
  rw [if_neg x2, if_neg x2, q1012_84]
  by_cases x3 : x = am_c 3
  · subst x3
    rw [if_pos rfl, if_pos rfl, m1002 d r1 h16, am_bI_ret]
    by_cases hk : am_ix k < O.S.w
    · rw [decide_eq_true hk, if_neg (by decide), show am_c 1 = nI 1 from rfl, show am_c 1023 = nI 1023 from rfl, m1001c (d + 1) v (by omega) (by omega), am_bI_ret]
      by_cases hv : 1 ≤ am_ix v ∧ am_ix v ≤ 1023
      · obtain ⟨a, ha, rfl⟩ : ∃ j, j < O.S.w ∧ k = nI j := ⟨am_ix k, hk, (am_nIx k).symm⟩
        rw [decide_eq_true hv, if_neg (by decide), if_pos ⟨hk, hv⟩, show am_c 10 + nI a = nI (10 + a) from nI_add 10 a, am_ixN (show 10 + a < 4294967296 by omega), am_gbI (by omega), yes, am_ixN (show a < 4294967296 by omega)]
        refine fin (10 + a) v (ps_setM O.S a (am_ix v)) (by omega) (hR.one (S' := ps_setM O.S a (am_ix v)) (i := 10 + a) (y := v) hW (by omega) rfl rfl rfl rfl rfl rfl rfl ?_ ?_ ?_ ?_ ?_ ?_ ?_ ?_ ?_ _) rfl
        · rw [am_upI (by omega)]; exact r1
        · rw [am_upI (by omega)]; exact r8
        · rw [am_upI (by omega)]; exact r4
        · rw [am_upI (by omega)]; exact r5
        · rw [am_upI (by omega)]; exact r6
        · rw [am_upI (by omega)]; exact r12
        · rw [am_upI (by omega)]; exact r7
        · intro j hj
          have hj : j < O.S.w := hj
          show _ = nI (ps_fu O.S.mk a (am_ix v) j)
          by_cases hja : j = a
          · rw [hja, am_upS, ps_fu_at, am_nIx]
          · rw [ps_fu_ne hja, am_upI (by omega)]; exact r2 j hj
        · intro j hj
          have hj : j < O.S.w := hj
          rw [am_upI (by omega)]; exact r3 j hj
      · rw [decide_eq_false hv, if_pos (by decide), if_neg (fun z => hv z.2), h121]
        exact stay
    · rw [decide_eq_false hk, if_pos (by decide), if_neg (fun z => hk z.1), h121]
      exact stay
  rw [if_neg x3, if_neg x3, h121]
  exact stay
