/-! editions, the model's part -/
section Ops15
variable {S : ps_S} {μ : am_Mem}
theorem ps_Rm.st (h : ps_Rm 57 S μ) (hW : ps_Wf S) (v : Int32) : ps_Rm 57 (ps_st S v) (am_up μ 57 6 v) := by
  have w1 : S.w ≤ 16 := hW.1
  obtain ⟨r1, r2, r3, r4, r5, r6, r7, r8, r9, r10, r11, r12, r13⟩ := h
  refine ⟨?_, ?_, ?_, ?_, ?_, ?_, ?_, ?_, ?_, ?_, ?_, ?_, ?_⟩
  all_goals first
    | (rw [am_upI (by omega)]; assumption)
    | (rw [am_upS]; rfl)
    | (intro k hk; rw [am_upI (by omega)]; first | exact r2 k hk | exact r3 k hk | exact r9 k hk | exact r10 k hk)
    | (intro k i hk hi; rw [am_upI (by omega)]; first | exact r11 k i hk hi | exact r13 k i hk hi)
theorem ps_Rm.eds (h : ps_Rm 57 S μ) (hW : ps_Wf S) : ps_Rm 57 (ps_edS S) (am_up μ 57 4 (nI (S.ed + 1))) := by
  have w1 : S.w ≤ 16 := hW.1
  obtain ⟨r1, r2, r3, r4, r5, r6, r7, r8, r9, r10, r11, r12, r13⟩ := h
  refine ⟨?_, ?_, ?_, ?_, ?_, ?_, ?_, ?_, ?_, ?_, ?_, ?_, ?_⟩
  all_goals first
    | (rw [am_upI (by omega)]; assumption)
    | (rw [am_upS]; rfl)
    | (intro k hk; rw [am_upI (by omega)]; first | exact r2 k hk | exact r3 k hk | exact r9 k hk | exact r10 k hk)
    | (intro k i hk hi; rw [am_upI (by omega)]; first | exact r11 k i hk hi | exact r13 k i hk hi)
theorem ps_Rm.uss (h : ps_Rm 57 S μ) (hW : ps_Wf S) {e i k : Nat} (he : e < S.n) (hi : i < 3) : ps_Rm 57 (ps_usS S e i k) (am_up μ 57 (47 + 5 * e + i) (nI k)) := by
  have w1 : S.w ≤ 16 := hW.1
  have w7 : S.n ≤ 12 := hW.2.2.2.2.2.2.1
  obtain ⟨r1, r2, r3, r4, r5, r6, r7, r8, r9, r10, r11, r12, r13⟩ := h
  have lt : ∀ {k}, k < (ps_usS S e i k).w → k < S.w := fun h => h
  refine ⟨?_, ?_, ?_, ?_, ?_, ?_, ?_, ?_, ?_, ?_, ?_, ?_, ?_⟩
  · rw [am_upI (by omega)]; exact r1
  · intro k hk
    have hk : k < S.w := hk
    rw [am_upI (by omega)]; exact r2 k hk
  · intro k hk
    have hk : k < S.w := hk
    rw [am_upI (by omega)]; exact r3 k hk
  · rw [am_upI (by omega)]; exact r4
  · rw [am_upI (by omega)]; exact r5
  · rw [am_upI (by omega)]; exact r6
  · rw [am_upI (by omega)]; exact r7
  · rw [am_upI (by omega)]; exact r8
  · intro e' he'
    rw [am_upI (by omega)]; exact r9 e' he'
  · intro e' he'
    rw [am_upI (by omega)]; exact r10 e' he'
  · intro e' j he' hj
    show am_up μ 57 (47 + 5 * e + i) (nI k) 57 (47 + 5 * e' + j) = nI (ps_fu S.us e (ps_fu (S.us e) i k) e' j)
    have hj3 := (hW.e (S := S) he').2.2.2.2.2.1
    have hj : j < S.ct e' := hj
    by_cases hee : e' = e
    · subst hee
      rw [ps_fu_at]
      by_cases hji : j = i
      · subst hji; rw [ps_fu_at, am_upS]
      · rw [ps_fu_ne hji, am_upI (by omega)]; exact r11 e' j he' hj
    · rw [ps_fu_ne hee, am_upI (by omega)]; exact r11 e' j he' hj
  · rw [am_upI (by omega)]; exact r12
  · intro l f hl hf
    rw [am_upI (by omega)]; exact r13 l f hl hf
/-- only the row changes, and not the law in it -/
def ps_om (μ μ' : am_Mem) : Prop := (∀ K, K ≠ 57 → μ' K = μ K) ∧ ∀ i, 435 ≤ i → μ' 57 i = μ 57 i
theorem ps_om.rf (μ : am_Mem) : ps_om μ μ := ⟨fun _ _ => rfl, fun _ _ => rfl⟩
theorem ps_om.tr {μ μ1 μ2 : am_Mem} (h : ps_om μ μ1) (h' : ps_om μ1 μ2) : ps_om μ μ2 := ⟨fun K hK => (h'.1 K hK).trans (h.1 K hK), fun i hi => (h'.2 i hi).trans (h.2 i hi)⟩
theorem ps_om.up {μ μ1 : am_Mem} (h : ps_om μ μ1) {i : Nat} {x : Int32} (hi : i < 435) : ps_om μ (am_up μ1 57 i x) := ⟨fun K hK => by rw [am_up_ne hK]; exact h.1 K hK, fun j hj => by rw [am_upI (by omega)]; exact h.2 j hj⟩
theorem m1050 (d : Nat) (h : ps_Rm 57 S μ) (hW : ps_Wf S) (e was is : Nat) : ∃ μ', am_call (d + 1) 1050 [.ref 56, .int (nI e), .int (nI was), .int (nI is)] μ = am_ret none μ' ∧ ps_Rm 57 (ps_bkS S e was is) μ' ∧ ps_om μ μ' := by
  obtain ⟨r1, r2, r3, r4, r5, r6, r7, r8, r9, r10, r11, r12, r13⟩ := id h
  have hb : S.bn ≤ 80 := hW.2.2.2.2.2.2.2.2.1
  have w1 : S.w ≤ 16 := hW.1
  have w7 : S.n ≤ 12 := hW.2.2.2.2.2.2.1
  rw [e1050, q1050_0, r12, ps_bkS]
  by_cases hc : S.bn < 80
  · rw [if_neg (by rw [am_cN, am_eqN (by omega) (by omega)]; omega), if_pos hc, q1050_12]
    simp (disch := omega) only [r12, r6, am_cN, pk_mul, nI_add, am_ixN, am_gbI, am_upI]
    refine ⟨_, rfl, ?_, (((((ps_om.rf μ).up (by omega)).up (by omega)).up (by omega)).up (by omega)).up (by omega)⟩
    refine ⟨?_, ?_, ?_, ?_, ?_, ?_, ?_, ?_, ?_, ?_, ?_, ?_, ?_⟩
    · simp (disch := omega) only [am_upI]; exact r1
    · intro k hk
      have hk : k < S.w := hk
      simp (disch := omega) only [am_upI]; exact r2 k hk
    · intro k hk
      have hk : k < S.w := hk
      simp (disch := omega) only [am_upI]; exact r3 k hk
    · simp (disch := omega) only [am_upI]; exact r4
    · simp (disch := omega) only [am_upI]; exact r5
    · simp (disch := omega) only [am_upI]; exact r6
    · simp (disch := omega) only [am_upI]; exact r7
    · simp (disch := omega) only [am_upI]; exact r8
    · intro k hk
      have hk : k < S.n := hk
      simp (disch := omega) only [am_upI]; exact r9 k hk
    · intro k hk
      have hk : k < S.n := hk
      simp (disch := omega) only [am_upI]; exact r10 k hk
    · intro k i hk hi
      have hk : k < S.n := hk
      have hj3 := (hW.e hk).2.2.2.2.2.1
      have hi : i < S.ct k := hi
      simp (disch := omega) only [am_upI]; exact r11 k i hk hi
    · exact am_upS _ _ _ _
    · intro l f hl hf
      have hl : l < S.bn + 1 := hl
      show _ = nI (ps_fu S.bk S.bn (ps_bl S.ed e was is) l f)
      rw [am_upI (by omega)]
      by_cases hll : l = S.bn
      · subst hll
        rw [ps_fu_at]
        rcases (show f = 0 ∨ f = 1 ∨ f = 2 ∨ f = 3 by omega) with rfl | rfl | rfl | rfl
        · simp (disch := omega) only [am_upI]; exact am_upS _ _ _ _
        · simp (disch := omega) only [am_upI]; exact am_upS _ _ _ _
        · simp (disch := omega) only [am_upI]; exact am_upS _ _ _ _
        · exact am_upS _ _ _ _
      · rw [ps_fu_ne hll]
        simp (disch := omega) only [am_upI]
        exact r13 l f (by omega) hf
  · rw [if_pos (by rw [am_cN, am_eqN (by omega) (by omega)]; omega), if_neg hc]
    exact ⟨μ, rfl, h, ps_om.rf μ⟩
theorem m1051_k (d : Nat) (hW : ps_Wf S) {e i k c : Nat} (he : e < S.n) (hi : i < S.ct e) (hk : k < S.w) (s3 : Int32) (μ2 : am_Mem) (hR3 : ps_Rm 57 (ps_st S s3) μ2) (o2 : ps_om μ μ2) (d2 : Nat) (hd2 : d2 = d + 2) (x3 x4 : Value) (x3' x4' : Value) (hx3 : x3' = .int (nI i)) (hx4 : x4' = .int (nI k)) : ∃ μ' y3 y4, am_bI (am_call d2 1005 [.ref 56, .int (nI e), .int (nI 0)] μ2) (fun r4 m4 => if nI k = r4 then am_ev (am_call d2) 1051 121 [.ref 56, .int (nI c), .int (nI e), x3', x4'] [] m4 else am_bI (am_call d2 1044 [.ref 56, .int (nI e)] m4) (fun r5 m5 => if (r5 >>> (nI k &&& 31)) &&& nI 1 = nI 1 then am_ev (am_call d2) 1051 121 [.ref 56, .int (nI c), .int (nI e), x3', x4'] [] m5 else am_ev (am_call d2) 1051 93 [.ref 56, .int (nI c), .int (nI e), x3', x4'] [] m5)) = am_ev (am_call d2) 1051 121 [.ref 56, .int (nI (c + (ps_chg' S e i k s3).1.toNat)), .int (nI e), y3, y4] [] μ' ∧ ps_Rm 57 (ps_chg' S e i k s3).2 μ' ∧ ps_om μ μ' := by
  subst hd2 hx3 hx4
  obtain ⟨g1, g2, g3, g4, g5, g6, g7, g8, g9⟩ := hW.e he
  have hh : μ2 57 (45 + 5 * e + 0) = nI (S.hd e) := hR3.2.2.2.2.2.2.2.2.1 e he
  have hWs := ps_st_wf hW s3
  rw [m1005 (d + 1) (by omega), am_bI_ret, hh, v1044 d hR3 hWs he, am_bI_ret, ps_chg', (ps_st_f S s3).2.2.2.2.2.2.1, am_bit (by omega) (by omega)]
  by_cases c1 : k = S.hd e
  · rw [if_pos (by rw [c1]), if_pos (Or.inl c1)]
    exact ⟨μ2, _, _, rfl, hR3, o2⟩
  rw [if_neg (by rw [am_eqN (by omega) (by omega)]; exact c1)]
  by_cases c2 : (ps_us S e).testBit k = true
  · rw [if_pos (by rw [c2]; rfl), if_pos (Or.inr c2)]
    exact ⟨μ2, _, _, rfl, hR3, o2⟩
  · rw [if_neg (by rw [am_b1']; exact c2), if_neg (fun z => by rcases z with z | z; exact c1 z; exact c2 z), q1051_93, am_cN, nI_add, m1005 (d + 1) (by omega), am_bI_ret]
    have hu : μ2 57 (45 + 5 * e + (2 + i)) = nI (S.us e i) := by
      rw [show 45 + 5 * e + (2 + i) = 47 + 5 * e + i by omega]
      exact hR3.2.2.2.2.2.2.2.2.2.2.1 e i he hi
    obtain ⟨μ3, a1, a2, a3⟩ := m1050 (d + 1) hR3 hWs e (S.us e i) k
    rw [hu, a1, am_bV_ret, m1006 (d + 1) (by omega), am_bV_ret, am_cN, nI_add, show 45 + 5 * e + (2 + i) = 47 + 5 * e + i by omega]
    exact ⟨_, _, _, rfl, a2.uss (ps_bk_wf hWs _ _ _) (by rw [(ps_bk_sm _ _ _ _).1.2.1]; exact he) (by omega), (o2.tr a3).up (by omega)⟩
theorem m1051_e (d : Nat) (h : ps_Rm 57 S μ) (hW : ps_Wf S) {e c : Nat} (he : e < S.n) (x3 x4 : Value) : ∃ μ' y3 y4, am_ev (am_call (d + 2)) 1051 42 [.ref 56, .int (nI c), .int (nI e), x3, x4] [] μ = am_ev (am_call (d + 2)) 1051 121 [.ref 56, .int (nI (c + (ps_chgE S e).1.toNat)), .int (nI e), y3, y4] [] μ' ∧ ps_Rm 57 (ps_chgE S e).2 μ' ∧ ps_om μ μ' := by
  obtain ⟨g1, g2, g3, g4, g5, g6, g7, g8, g9⟩ := hW.e he
  have s1 : μ 57 6 = S.sta := h.2.2.2.2.2.2.1
  have s2 : μ 57 (45 + 5 * e + 1) = nI (S.ct e) := by
    rw [show 45 + 5 * e + 1 = 46 + 5 * e by omega]
    exact h.2.2.2.2.2.2.2.2.2.1 e he
  have hw : μ 57 0 = nI S.w := h.1
  rw [q1051_42, show am_c 1 = nI 1 from rfl, show am_c 0 = nI 0 from rfl, m1005 (d + 1) (by omega), am_bI_ret, s2, m1010 (d + 1) (by omega) (by omega), am_bI_ret, s1, am_upI (by omega), hw, m1010 (d + 1) (by omega) (by omega), am_bI_ret, am_upS, ps_chgE]
  have i3 : ps_dr (ps_nx S.sta) (S.ct e) < S.ct e := ps_dr_lt (by omega)
  have k3 : ps_dr (ps_nx (ps_nx S.sta)) S.w < S.w := ps_dr_lt (by omega)
  generalize ps_dr (ps_nx S.sta) (S.ct e) = i at *
  generalize ps_dr (ps_nx (ps_nx S.sta)) S.w = k at *
  generalize ps_nx (ps_nx S.sta) = s3
  generalize ps_nx S.sta = s2
  have hR3 := (h.st hW s2).st (ps_st_wf hW s2) s3
  rw [ps_st_st] at hR3
  exact m1051_k d hW he i3 k3 s3 _ hR3 (((ps_om.rf μ).up (by omega)).up (by omega)) _ rfl x3 x4 _ _ rfl rfl
theorem m1051_v (d : Nat) (h : ps_Rm 57 S μ) (hW : ps_Wf S) {e c : Nat} (he : e < S.n) (v : Int32) (hdr : ps_dr v 1000 < 1000) (h0 : ¬ S.chg = 0) (d3 : Nat) (hd3 : d3 = d + 2) (x3 x4 : Value) : ∃ μ1 y3 y4, (if nI (ps_dr v 1000) < nI S.chg then am_ev (am_call d3) 1051 42 [.ref 56, .int (nI c), .int (nI e), x3, x4] [] (am_up μ 57 6 v) else am_ev (am_call d3) 1051 121 [.ref 56, .int (nI c), .int (nI e), x3, x4] [] (am_up μ 57 6 v)) = am_ev (am_call d3) 1051 121 [.ref 56, .int (nI (c + (ps_edV S e v).1.toNat)), .int (nI e), y3, y4] [] μ1 ∧ ps_Rm 57 (ps_edV S e v).2 μ1 ∧ ps_om μ μ1 := by
  subst hd3
  have hc : S.chg ≤ 1000 := hW.2.2.2.2.1
  have h1 := h.st hW v
  have hWs := ps_st_wf hW v
  rw [ps_edV, if_neg h0]
  by_cases hl : ps_dr v 1000 < S.chg
  · obtain ⟨μ2, y3, y4, a1, a2, a3⟩ := m1051_e d h1 hWs (e := e) (c := c) he x3 x4
    rw [if_pos (by rw [am_ltN (by omega) (by omega)]; omega), a1, if_pos hl]
    exact ⟨μ2, y3, y4, rfl, a2, ((ps_om.rf μ).up (by omega)).tr a3⟩
  · rw [if_neg (by rw [am_ltN (by omega) (by omega)]; omega), if_neg hl]
    exact ⟨_, _, _, rfl, h1, (ps_om.rf μ).up (by omega)⟩
theorem m1051_s (d : Nat) (h : ps_Rm 57 S μ) (hW : ps_Wf S) {e c : Nat} (he : e < S.n) (x3 x4 : Value) : ∃ μ1 y3 y4, am_ev (am_call (d + 2)) 1051 4 [.ref 56, .int (nI c), .int (nI e), x3, x4] [] μ = am_ev (am_call (d + 2)) 1051 121 [.ref 56, .int (nI (c + (ps_edE S e).1.toNat)), .int (nI e), y3, y4] [] μ1 ∧ ps_Rm 57 (ps_edE S e).2 μ1 ∧ ps_om μ μ1 := by
  have n12 : S.n ≤ 12 := hW.2.2.2.2.2.2.1
  have r8 : μ 57 1 = nI S.n := h.2.2.2.2.2.2.2.1
  have r5 : μ 57 3 = nI S.chg := h.2.2.2.2.1
  have r7 : μ 57 6 = S.sta := h.2.2.2.2.2.2.1
  have hc : S.chg ≤ 1000 := hW.2.2.2.2.1
  rw [q1051_4, r8, if_neg (by rw [am_leN (by omega) (by omega)]; omega), r5, ps_edE]
  by_cases h0 : S.chg = 0
  · rw [if_pos (by rw [h0]; decide), ps_edV, if_pos h0]
    exact ⟨μ, _, _, rfl, h, ps_om.rf μ⟩
  rw [if_neg (by rw [am_eq0 (by omega)]; omega), show am_c 1000 = nI 1000 from rfl, m1010 (d + 1) (by omega) (by omega), am_bI_ret, r7, am_upI (by omega), r5]
  exact m1051_v d h hW he _ (ps_dr_lt (by omega)) h0 _ rfl x3 x4
theorem m1051_4 (d : Nat) : ∀ (k : Nat) (S : ps_S) (e c : Nat) (μ : am_Mem) (x3 x4 : Value), ps_Rm 57 S μ → ps_Wf S → e + k = S.n → S.ed + 1 ≤ 9999 → ∃ μ', am_ev (am_call (d + 2)) 1051 4 [.ref 56, .int (nI c), .int (nI e), x3, x4] [] μ = am_ret (some (.int (nI (ps_edL k S e c).1))) μ' ∧ ps_Rm 57 (ps_edL k S e c).2 μ' ∧ ps_om μ μ' := by
  intro k
  induction k with
  | zero =>
    intro S e c μ x3 x4 h hW hk hed
    have n12 : S.n ≤ 12 := hW.2.2.2.2.2.2.1
    have r8 : μ 57 1 = nI S.n := h.2.2.2.2.2.2.2.1
    have r6 : μ 57 4 = nI S.ed := h.2.2.2.2.2.1
    rw [q1051_4, r8, if_pos (by rw [am_leN (by omega) (by omega)]; omega), q1051_127, r6, am_cN, nI_add]
    exact ⟨_, rfl, h.eds hW, (ps_om.rf μ).up (by omega)⟩
  | succ k ih =>
    intro S e c μ x3 x4 h hW hk hed
    have g := ps_edE_sm S hW (e := e) (by omega)
    obtain ⟨μ1, y3, y4, b1, b2, b3⟩ := m1051_s d h hW (e := e) (c := c) (by omega) x3 x4
    obtain ⟨μ', a1, a2, a3⟩ := ih (ps_edE S e).2 (e + 1) (c + (ps_edE S e).1.toNat) μ1 y3 y4 b2 g.2.1 (by rw [g.1.2.1]; omega) (by rw [g.2.2]; exact hed)
    rw [b1, q1051_121, am_cN, nI_add]
    exact ⟨μ', a1, a2, b3.tr a3⟩
theorem m1051 (d : Nat) (h : ps_Rm 57 S μ) (hW : ps_Wf S) (hed : S.ed + 1 ≤ 9999) : ∃ μ', am_call (d + 3) 1051 [.ref 56] μ = am_ret (some (.int (nI (ps_edition S).1))) μ' ∧ ps_Rm 57 (ps_edition S).2 μ' ∧ ps_om μ μ' := by
  rw [e1051, q1051_0]
  exact m1051_4 d S.n S 0 0 μ _ _ h hW (by omega) hed
end Ops15
