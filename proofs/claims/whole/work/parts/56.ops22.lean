/-! the model: entries laid out; trade -/
section Ops22
variable {S : ps_S}
theorem am_nar2 (b : Bool) : am_nar 2 (nI b.toNat) = nI b.toNat := by cases b <;> rfl
theorem v1059_2 (d : Nat) (hW : ps_Wf S) (hl : ps_Lw S.law) : ∀ k e (μ : am_Mem), ps_Rm 57 S μ → ps_Lm 57 S.law μ → e + k = S.n → (∀ j, j < e → μ 66 j = nI (ps_us S j) ∧ μ 67 j = nI (ps_fxe S j).toNat) → ∃ μ', am_ev (am_call (d + 4)) 1059 2 [.ref 56, .int (nI e)] [] μ = am_ret none μ' ∧ ps_off [64, 65, 66, 67] μ μ' ∧ ∀ j, j < S.n → μ' 66 j = nI (ps_us S j) ∧ μ' 67 j = nI (ps_fxe S j).toNat := by
  have n12 : S.n ≤ 12 := hW.2.2.2.2.2.2.1
  intro k
  induction k with
  | zero =>
    intro e μ hR hL he h6
    have he : e = S.n := he
    subst he
    have r8 : μ 57 1 = nI S.n := hR.2.2.2.2.2.2.2.1
    rw [q1059_2, r8, if_pos (by rw [am_leN (by omega) (by omega)]; omega), q1059_40]
    exact ⟨μ, rfl, ps_off.rf, h6⟩
  | succ k ih =>
    intro e μ hR hL he h6
    have r8 : μ 57 1 = nI S.n := hR.2.2.2.2.2.2.2.1
    have s0 : ps_scM μ (am_up μ 66 e (nI (ps_us S e))) := (ps_scM.rf μ).up (by omega) (by omega) (by omega)
    obtain ⟨μ1, a1, a2⟩ := v1045 d (s0.R hR) (s0.L hL) hW hl (e := e) (by omega)
    have s1 := s0.tr (ps_scM.of a2 rfl)
    have s2 : ps_scM μ (am_up μ1 67 e (nI (ps_fxe S e).toNat)) := s1.up (by omega) (by omega) (by omega)
    rw [q1059_2, r8, if_neg (by rw [am_leN (by omega) (by omega)]; omega), v1044 (d + 2) hR hW (by omega), am_bI_ret, am_ixN (by omega), am_gbI (by omega), a1, am_bI_ret, am_gbI (by omega), am_nar2, am_cN, nI_add]
    obtain ⟨μ', b1, b2, b3⟩ := ih (e + 1) (am_up μ1 67 e (nI (ps_fxe S e).toNat)) (s2.R hR) (s2.L hL) (by omega) (fun j hj => by
      rw [am_upK (by omega), a2 66 (by decide)]
      by_cases hje : j = e
      · subst hje
        exact ⟨am_upS _ _ _ _, am_upS _ _ _ _⟩
      · rw [am_upI hje, am_upI hje, a2 67 (by decide), am_upK (by omega)]
        exact h6 j (by omega))
    rw [b1]
    exact ⟨μ', rfl, (((ps_off.rf.up (by decide)).tr (a2.mono (by simp))).up (by decide)).tr b2, b3⟩
theorem v1059 (d : Nat) (hW : ps_Wf S) (hl : ps_Lw S.law) {μ : am_Mem} (hR : ps_Rm 57 S μ) (hL : ps_Lm 57 S.law μ) : ∃ μ', am_call (d + 5) 1059 [.ref 56] μ = am_ret none μ' ∧ ps_off [64, 65, 66, 67] μ μ' ∧ ∀ j, j < S.n → μ' 66 j = nI (ps_us S j) ∧ μ' 67 j = nI (ps_fxe S j).toNat := by
  rw [e1059, q1059_0]
  exact v1059_2 d hW hl S.n 0 μ hR hL (by omega) (fun j hj => by omega)
theorem v1074 (d : Nat) {μ : am_Mem} (hR : ps_Rm 57 S μ) (hL : ps_Lm 57 S.law μ) (hW : ps_Wf S) (hl : ps_Lw S.law) {e i f j : Nat} (he : e < S.n) (hi : i < S.ct e) (hf : f < S.n) (hj : j < S.ct f) : ∃ μ', am_call (d + 4) 1074 [.ref 56, .int (nI e), .int (nI i), .int (nI f), .int (nI j)] μ = am_ret (some (.int (nI (ps_tr S e i f j).toNat))) μ' ∧ ps_off [64, 65] μ μ' := by
  obtain ⟨g1, g2, g3, g4, g5, g6, g7, g8, g9⟩ := hW.e he
  obtain ⟨-, -, f3, f4, f5, f6, f7, f8, f9⟩ := hW.e hf
  obtain ⟨o1, o2⟩ := ps_ot_lt hW he i
  obtain ⟨p1, p2⟩ := ps_ot_lt hW hf j
  have ue := g7 i hi
  have uf := f7 j hj
  have hue : μ 57 (45 + 5 * e + (2 + i)) = nI (S.us e i) := by rw [show 45 + 5 * e + (2 + i) = 47 + 5 * e + i by omega]; exact hR.2.2.2.2.2.2.2.2.2.2.1 e i he hi
  have huf : μ 57 (45 + 5 * f + (2 + j)) = nI (S.us f j) := by rw [show 45 + 5 * f + (2 + j) = 47 + 5 * f + j by omega]; exact hR.2.2.2.2.2.2.2.2.2.2.1 f j hf hj
  have r9 : ∀ (μ1 : am_Mem), μ1 57 = μ 57 → ∀ e, e < S.n → μ1 57 (45 + 5 * e + 0) = nI (S.hd e) := fun μ1 h1 e he => by rw [h1]; exact hR.2.2.2.2.2.2.2.2.1 e he
  have no : ∀ (b : Bool) (μ1 : am_Mem) (x5 x6 x7 x8 : Int32), ps_tr S e i f j = false → ∃ μ', am_ev (am_call (d + 3)) 1074 93 [.ref 56, .int (nI e), .int (nI i), .int (nI f), .int (nI j), .int x5, .int x6, .int x7, .int x8] [] μ = am_ret (some (.int (nI (ps_tr S e i f j).toNat))) μ' ∧ ps_off [64, 65] μ μ' := by
    intro b μ1 x5 x6 x7 x8 h
    rw [q1074_93, h]
    exact ⟨μ, rfl, ps_off.rf⟩
  have a2 : am_c 2 = nI 2 := rfl
  have a1 : am_c 1 = nI 1 := rfl
  have a0 : am_c 0 = nI 0 := rfl
  rw [e1074, q1074_0, a2, a1, a0, nI_add, nI_add, m1005 (d + 2) (by omega), am_bI_ret, hue, m1005 (d + 2) (by omega), am_bI_ret, huf, v1044 (d + 1) hR hW he, am_bI_ret, v1044 (d + 1) hR hW hf, am_bI_ret, m1005 (d + 2) (by omega), am_bI_ret, r9 μ rfl e he, m1005 (d + 2) (by omega), am_bI_ret, r9 μ rfl f hf, am_shl1 (by omega), am_shl1 (by omega), am_andn, am_andn, show ps_dif (ps_us S e) (2 ^ S.us e i) = ps_ot S e i from rfl, show ps_dif (ps_us S f) (2 ^ S.us f j) = ps_ot S f j from rfl, am_bit (by omega) (by omega), am_bit (by omega) (by omega)]
  by_cases c1 : S.us f j = S.hd e
  · rw [if_pos (by rw [c1])]
    exact no true μ _ _ _ _ (by rw [ps_tr, ps_wfx, decide_eq_true c1]; rfl)
  rw [if_neg (by rw [am_eqN (by omega) (by omega)]; exact c1)]
  by_cases c2 : S.us e i = S.hd f
  · rw [if_pos (by rw [c2])]
    exact no true μ _ _ _ _ (by simp [ps_tr, ps_wfx, c2])
  rw [if_neg (by rw [am_eqN (by omega) (by omega)]; exact c2)]
  cases c3 : (ps_ot S e i).testBit (S.us f j) with
  | true =>
    rw [if_pos (by decide)]
    exact no true μ _ _ _ _ (by rw [ps_tr, ps_wfx, c3]; simp)
  | false =>
    rw [if_neg (by decide)]
    cases c4 : (ps_ot S f j).testBit (S.us e i) with
    | true =>
      rw [if_pos (by decide)]
      exact no true μ _ _ _ _ (by simp [ps_tr, ps_wfx, c4])
    | false =>
      have hs1 : ps_ot S e i ||| 2 ^ S.us f j < 2 ^ S.w := Nat.or_lt_two_pow o1 (Nat.pow_lt_pow_right (by omega) (by omega))
      have hs2 : ps_ot S f j ||| 2 ^ S.us e i < 2 ^ S.w := Nat.or_lt_two_pow p1 (Nat.pow_lt_pow_right (by omega) (by omega))
      obtain ⟨μ1, b1, b2⟩ := v1043 d hR hL hW hl g4 hs1
      have s1 : ps_scM μ μ1 := ps_scM.of b2 rfl
      obtain ⟨μ2, d1, d2⟩ := v1043 d (s1.R hR) (s1.L hL) hW hl f4 hs2
      rw [if_neg (by decide), q1074_95, a0, a1, m1005 (d + 2) (by omega), am_bI_ret, r9 μ rfl e he, am_shl1 (by omega), am_or, b1, am_bI_ret, m1005 (d + 2) (by omega), am_bI_ret, r9 μ1 (b2 57 (by decide)) f hf, am_shl1 (by omega), am_or, d1, am_bI_ret, q1074_139, q1074_139, q1074_140, q1074_140, q1074_140]
      have ht : ps_tr S e i f j = (ps_fx S (S.hd e) (ps_ot S e i ||| 2 ^ S.us f j) && ps_fx S (S.hd f) (ps_ot S f j ||| 2 ^ S.us e i)) := by
        rw [ps_tr, ps_wfx, ps_wfx, c3, c4, decide_eq_false c1, decide_eq_false c2]
        rfl
      rw [ht]
      cases k1 : ps_fx S (S.hd e) (ps_ot S e i ||| 2 ^ S.us f j) with
      | false =>
        rw [if_pos (by decide), am_gbt0]
        exact ⟨μ1, rfl, b2⟩
      | true =>
        rw [if_neg (by decide)]
        cases k2 : ps_fx S (S.hd f) (ps_ot S f j ||| 2 ^ S.us e i) with
        | false =>
          rw [if_pos (by decide), am_gbt0]
          exact ⟨μ2, rfl, b2.tr d2⟩
        | true =>
          rw [if_neg (by decide), show nI 1 = am_c 1 from rfl, am_gbt1]
          exact ⟨μ2, rfl, b2.tr d2⟩
theorem v1075_86 (d : Nat) (hW : ps_Wf S) (hl : ps_Lw S.law) {e f i : Nat} (he : e < S.n) (hf : f < S.n) (hi : i < S.ct e) : ∀ k j (t : ps_T) (μ : am_Mem), ps_Rm 57 S μ → ps_Lm 57 S.law μ → j + k = S.ct f → ps_t4 72 t μ → ∃ μ', am_ev (am_call (d + 4)) 1075 86 [.ref 56, .int (nI t.1), .int (nI e), .int (nI f), .int (nI i), .int (nI j)] [] μ = am_ev (am_call (d + 4)) 1075 156 [.ref 56, .int (nI (ps_tj S e f i k j t).1), .int (nI e), .int (nI f), .int (nI i), .int (nI (S.ct f))] [] μ' ∧ ps_off [64, 65, 72] μ μ' ∧ ps_t4 72 (ps_tj S e f i k j t) μ' := by
  obtain ⟨g1, g2, g3, g4, g5, g6, g7, g8, g9⟩ := hW.e he
  obtain ⟨-, -, f3, f4, f5, f6, f7, f8, f9⟩ := hW.e hf
  have a1 : am_c 1 = nI 1 := rfl
  intro k
  induction k with
  | zero =>
    intro j t μ hR hL hj h4
    have hj : j = S.ct f := hj
    subst hj
    have r10 : μ 57 (45 + 5 * f + 1) = nI (S.ct f) := by rw [show 45 + 5 * f + 1 = 46 + 5 * f by omega]; exact hR.2.2.2.2.2.2.2.2.2.1 f hf
    rw [q1075_86, a1, m1005 (d + 3) (by omega), am_bI_ret, r10, if_pos (by rw [am_leN (by omega) (by omega)]; omega)]
    exact ⟨μ, rfl, ps_off.rf, h4⟩
  | succ k ih =>
    intro j t μ hR hL hj h4
    have r10 : μ 57 (45 + 5 * f + 1) = nI (S.ct f) := by rw [show 45 + 5 * f + 1 = 46 + 5 * f by omega]; exact hR.2.2.2.2.2.2.2.2.2.1 f hf
    obtain ⟨μ1, b1, b2⟩ := v1074 d hR hL hW hl he hi hf (j := j) (by omega)
    have b2' : ps_off [64, 65, 72] μ μ1 := b2.mono (by simp)
    have k72 : μ1 72 = μ 72 := b2 72 (by decide)
    have nx : ∀ (μ2 : am_Mem) (t1 : ps_T), ps_off [64, 65, 72] μ μ2 → ps_t4 72 t1 μ2 → t1 = (if ps_tr S e i f j = true then ps_nt t e f i j else t) → ∃ μ', am_ev (am_call (d + 4)) 1075 150 [.ref 56, .int (nI t1.1), .int (nI e), .int (nI f), .int (nI i), .int (nI j)] [] μ2 = am_ev (am_call (d + 4)) 1075 156 [.ref 56, .int (nI (ps_tj S e f i (k + 1) j t).1), .int (nI e), .int (nI f), .int (nI i), .int (nI (S.ct f))] [] μ' ∧ ps_off [64, 65, 72] μ μ' ∧ ps_t4 72 (ps_tj S e f i (k + 1) j t) μ' := by
      intro μ2 t1 h1 h2 ht
      have s2 : ps_scM μ μ2 := ps_scM.of h1 rfl
      obtain ⟨μ', e1, e2, e3⟩ := ih (j + 1) t1 μ2 (s2.R hR) (s2.L hL) (by omega) h2
      rw [q1075_150, a1, nI_add, e1, ps_tj, ← ht]
      exact ⟨μ', rfl, h1.tr e2, e3⟩
    rw [q1075_86, a1, m1005 (d + 3) (by omega), am_bI_ret, r10, if_neg (by rw [am_leN (by omega) (by omega)]; omega), b1, am_bI_ret]
    cases c1 : ps_tr S e i f j with
    | false =>
      rw [if_pos (by decide)]
      exact nx μ1 t b2' (h4.off k72) (by rw [c1]; rfl)
    | true =>
      rw [if_neg (by decide), q1075_113]
      by_cases hc : nI t.1 = 0
      · rw [if_pos hc, q1075_147, a1, nI_add]
        have hn : ps_nt t e f i j = (t.1 + 1, nI e, nI f, nI i, nI j) := by rw [ps_nt, if_pos hc]
        exact nx _ (t.1 + 1, nI e, nI f, nI i, nI j) ((((b2'.up (by decide)).up (by decide)).up (by decide)).up (by decide)) ⟨by simp (disch := omega) only [am_upI, am_upS], by simp (disch := omega) only [am_upI, am_upS], by simp (disch := omega) only [am_upI, am_upS], by rw [am_upS]⟩ (by rw [c1, if_pos rfl, hn])
      · rw [if_neg hc, q1075_147, a1, nI_add]
        have hn : ps_nt t e f i j = (t.1 + 1, t.2) := by rw [ps_nt, if_neg hc]
        exact nx _ (t.1 + 1, t.2) b2' (h4.off k72) (by rw [c1, if_pos rfl, hn])
theorem v1075_72 (d : Nat) (hW : ps_Wf S) (hl : ps_Lw S.law) {e f : Nat} (he : e < S.n) (hf : f < S.n) : ∀ k i (t : ps_T) (μ : am_Mem) (x5 : Value), ps_Rm 57 S μ → ps_Lm 57 S.law μ → i + k = S.ct e → ps_t4 72 t μ → ∃ μ' y5, am_ev (am_call (d + 4)) 1075 72 [.ref 56, .int (nI t.1), .int (nI e), .int (nI f), .int (nI i), x5] [] μ = am_ev (am_call (d + 4)) 1075 162 [.ref 56, .int (nI (ps_ti S e f k i t).1), .int (nI e), .int (nI f), .int (nI (S.ct e)), y5] [] μ' ∧ ps_off [64, 65, 72] μ μ' ∧ ps_t4 72 (ps_ti S e f k i t) μ' := by
  obtain ⟨g1, g2, g3, g4, g5, g6, g7, g8, g9⟩ := hW.e he
  have a1 : am_c 1 = nI 1 := rfl
  intro k
  induction k with
  | zero =>
    intro i t μ x5 hR hL hi h4
    have hi : i = S.ct e := hi
    subst hi
    have r10 : μ 57 (45 + 5 * e + 1) = nI (S.ct e) := by rw [show 45 + 5 * e + 1 = 46 + 5 * e by omega]; exact hR.2.2.2.2.2.2.2.2.2.1 e he
    rw [q1075_72, a1, m1005 (d + 3) (by omega), am_bI_ret, r10, if_pos (by rw [am_leN (by omega) (by omega)]; omega)]
    exact ⟨μ, _, rfl, ps_off.rf, h4⟩
  | succ k ih =>
    intro i t μ x5 hR hL hi h4
    have r10 : μ 57 (45 + 5 * e + 1) = nI (S.ct e) := by rw [show 45 + 5 * e + 1 = 46 + 5 * e by omega]; exact hR.2.2.2.2.2.2.2.2.2.1 e he
    obtain ⟨μ1, b1, b2, b3⟩ := v1075_86 d hW hl he hf (i := i) (by omega) (S.ct f) 0 t μ hR hL (by omega) h4
    have s1 : ps_scM μ μ1 := ps_scM.of b2 rfl
    obtain ⟨μ', y5, e1, e2, e3⟩ := ih (i + 1) _ μ1 (.int (nI (S.ct f))) (s1.R hR) (s1.L hL) (by omega) b3
    rw [q1075_72, a1, m1005 (d + 3) (by omega), am_bI_ret, r10, if_neg (by rw [am_leN (by omega) (by omega)]; omega), show am_c 0 = nI 0 from rfl, b1, q1075_156, a1, nI_add, e1]
    exact ⟨μ', y5, rfl, b2.tr e2, e3⟩
theorem v1075_38 (d : Nat) (hW : ps_Wf S) (hl : ps_Lw S.law) {e : Nat} (he : e < S.n) : ∀ k f (t : ps_T) (μ : am_Mem) (x4 x5 : Value), ps_Rm 57 S μ → ps_Lm 57 S.law μ → f + k = S.n → ps_t4 72 t μ → (∀ j, j < S.n → μ 67 j = nI (ps_fxe S j).toNat) → ∃ μ' y4 y5, am_ev (am_call (d + 4)) 1075 38 [.ref 56, .int (nI t.1), .int (nI e), .int (nI f), x4, x5] [] μ = am_ev (am_call (d + 4)) 1075 168 [.ref 56, .int (nI (ps_tf S e k f t).1), .int (nI e), .int (nI S.n), y4, y5] [] μ' ∧ ps_off [64, 65, 72] μ μ' ∧ ps_t4 72 (ps_tf S e k f t) μ' := by
  have n12 : S.n ≤ 12 := hW.2.2.2.2.2.2.1
  have a1 : am_c 1 = nI 1 := rfl
  intro k
  induction k with
  | zero =>
    intro f t μ x4 x5 hR hL hf h4 h6
    have hf : f = S.n := hf
    subst hf
    have r8 : μ 57 1 = nI S.n := hR.2.2.2.2.2.2.2.1
    rw [q1075_38, r8, if_pos (by rw [am_leN (by omega) (by omega)]; omega)]
    exact ⟨μ, _, _, rfl, ps_off.rf, h4⟩
  | succ k ih =>
    intro f t μ x4 x5 hR hL hf h4 h6
    have r8 : μ 57 1 = nI S.n := hR.2.2.2.2.2.2.2.1
    have go : ¬ (ps_fxe S e = true ∧ ps_fxe S f = true) → ∃ μ' y4 y5, am_ev (am_call (d + 4)) 1075 69 [.ref 56, .int (nI t.1), .int (nI e), .int (nI f), x4, x5] [] μ = am_ev (am_call (d + 4)) 1075 168 [.ref 56, .int (nI (ps_tf S e (k + 1) f t).1), .int (nI e), .int (nI S.n), y4, y5] [] μ' ∧ ps_off [64, 65, 72] μ μ' ∧ ps_t4 72 (ps_tf S e (k + 1) f t) μ' := by
      intro hb
      obtain ⟨μ1, y5, b1, b2, b3⟩ := v1075_72 d hW hl he (f := f) (by omega) (S.ct e) 0 t μ x5 hR hL (by omega) h4
      have s1 : ps_scM μ μ1 := ps_scM.of b2 rfl
      obtain ⟨μ', z4, z5, e1, e2, e3⟩ := ih (f + 1) _ μ1 (.int (nI (S.ct e))) y5 (s1.R hR) (s1.L hL) (by omega) b3 (fun j hj => by rw [b2 67 (by decide)]; exact h6 j hj)
      rw [q1075_69, show am_c 0 = nI 0 from rfl, b1, q1075_162, a1, nI_add, e1, ps_tf, if_neg hb]
      exact ⟨μ', z4, z5, rfl, b2.tr e2, e3⟩
    rw [q1075_38, r8, if_neg (by rw [am_leN (by omega) (by omega)]; omega), am_ixN (by omega), am_gbI (by omega), h6 e he, am_ixN (by omega), am_gbI (by omega), h6 f (by omega)]
    cases c1 : ps_fxe S e with
    | false =>
      rw [if_pos (by decide)]
      exact go (by simp [c1])
    | true =>
      rw [if_neg (by decide)]
      cases c2 : ps_fxe S f with
      | false =>
        rw [if_pos (by decide)]
        exact go (by simp [c2])
      | true =>
        rw [if_neg (by decide), q1075_162, a1, nI_add, ps_tf, if_pos ⟨c1, c2⟩]
        exact ih (f + 1) t μ x4 x5 hR hL (by omega) h4 h6
theorem v1075_24 (d : Nat) (hW : ps_Wf S) (hl : ps_Lw S.law) : ∀ k e (t : ps_T) (μ : am_Mem) (x3 x4 x5 : Value), ps_Rm 57 S μ → ps_Lm 57 S.law μ → e + k = S.n → ps_t4 72 t μ → (∀ j, j < S.n → μ 67 j = nI (ps_fxe S j).toNat) → ∃ μ', am_ev (am_call (d + 4)) 1075 24 [.ref 56, .int (nI t.1), .int (nI e), x3, x4, x5] [] μ = am_ret (some (.int (nI (ps_te S k e t).1))) μ' ∧ ps_off [64, 65, 72] μ μ' ∧ ps_t4 72 (ps_te S k e t) μ' := by
  have n12 : S.n ≤ 12 := hW.2.2.2.2.2.2.1
  have a1 : am_c 1 = nI 1 := rfl
  intro k
  induction k with
  | zero =>
    intro e t μ x3 x4 x5 hR hL he h4 h6
    have r8 : μ 57 1 = nI S.n := hR.2.2.2.2.2.2.2.1
    rw [q1075_24, r8, if_pos (by rw [am_leN (by omega) (by omega)]; omega), q1075_174]
    exact ⟨μ, rfl, ps_off.rf, h4⟩
  | succ k ih =>
    intro e t μ x3 x4 x5 hR hL he h4 h6
    have r8 : μ 57 1 = nI S.n := hR.2.2.2.2.2.2.2.1
    obtain ⟨μ1, y4, y5, b1, b2, b3⟩ := v1075_38 d hW hl (e := e) (by omega) k (e + 1) t μ x4 x5 hR hL (by omega) h4 h6
    have s1 : ps_scM μ μ1 := ps_scM.of b2 rfl
    obtain ⟨μ', e1, e2, e3⟩ := ih (e + 1) _ μ1 (.int (nI S.n)) y4 y5 (s1.R hR) (s1.L hL) (by omega) b3 (fun j hj => by rw [b2 67 (by decide)]; exact h6 j hj)
    rw [q1075_24, r8, if_neg (by rw [am_leN (by omega) (by omega)]; omega), a1, nI_add, b1, q1075_168, a1, nI_add, e1]
    exact ⟨μ', rfl, b2.tr e2, e3⟩
theorem M_trade (d : Nat) (O : ps_O) (hO : ps_Ow O) (x : Int32) : ps_sM (d + 6) 1076 [.ref 56, .int x] O (some (.int (ps_trade O x))) O := by
  intro μ h
  rw [e1076, q1076_0, show am_c 0 = nI 0 from rfl, show am_c 4 = nI 4 from rfl, m1001c (d + 4) x (by omega) (by omega), am_bI_ret, ps_trade]
  by_cases hx : am_ix x ≤ 4
  · obtain ⟨μ0, z1, z2, z3⟩ := v1059 d hO.1 hO.2.1 h.1 h.2.1
    have s0 : ps_scM μ μ0 := ps_scM.of z2 rfl
    rw [decide_eq_true ⟨Nat.zero_le _, hx⟩, if_neg (by decide), if_pos hx, q1076_11, z1, am_bV_ret, e1075, q1075_0]
    have st : ∀ (i : Nat) (μ2 : am_Mem), i < 4 → am_ev (am_call (d + 4)) 1075 4 [.ref 56, .int (nI 0), .int (nI i), .null, .null, .null] [] μ2 = am_ev (am_call (d + 4)) 1075 4 [.ref 56, .int (nI 0), .int (nI (i + 1)), .null, .null, .null] [] (am_up μ2 72 i (am_c (-1))) := by
      intro i μ2 hi
      rw [q1075_4, if_neg (by rw [am_cN, am_leN (by omega) (by omega)]; omega), am_ixN (by omega), am_gbI hi, am_cN, nI_add]
    rw [show am_c 0 = nI 0 from rfl, st 0 _ (by omega)]
    rw [st 1 _ (by omega)]
    rw [st 2 _ (by omega)]
    rw [st 3 _ (by omega), q1075_4, if_pos (by decide), q1075_22]
    generalize hμ1 : am_up (am_up (am_up (am_up μ0 72 0 (am_c (-1))) 72 1 (am_c (-1))) 72 2 (am_c (-1))) 72 3 (am_c (-1)) = μ1
    have o1 : ps_off [72] μ0 μ1 := by rw [← hμ1]; exact ((((ps_off.rf).up (by decide)).up (by decide)).up (by decide)).up (by decide)
    have s1 : ps_scM μ μ1 := s0.tr (ps_scM.of o1 rfl)
    obtain ⟨μ', a1, a2, a3⟩ := v1075_24 d hO.1 hO.2.1 O.S.n 0 ps_t0 μ1 .null .null .null (s1.R h.1) (s1.L h.2.1) (by omega) (by rw [← hμ1]; exact ⟨by simp (disch := omega) only [am_upK, am_upI, am_upS]; rfl, by simp (disch := omega) only [am_upK, am_upI, am_upS]; rfl, by simp (disch := omega) only [am_upK, am_upI, am_upS]; rfl, by simp (disch := omega) only [am_upK, am_upI, am_upS]; rfl⟩) (fun j hj => by rw [o1 67 (by decide)]; exact (z3 j hj).2)
    have sc : ps_scM μ μ' := s1.tr (ps_scM.of a2 rfl)
    have a1 : am_ev (am_call (d + 4)) 1075 24 [.ref 56, .int (nI 0), .int (nI 0), .null, .null, .null] [] μ1 = am_ret (some (.int (nI (ps_trades O.S).1))) μ' := a1
    rw [show am_c 0 = nI 0 from rfl, a1, am_bI_ret, q1076_28, q1076_36, q1076_36]
    refine ⟨μ', ?_, sc.I h, sc.k⟩
    obtain ⟨k, hk, rfl⟩ := am_le_ix (by omega) hx
    have a3 : ps_t4 72 (ps_trades O.S) μ' := a3
    obtain ⟨t1, t2, t3, t4⟩ := a3
    rw [am_ixN (by omega)]
    rcases (show k = 0 ∨ k = 1 ∨ k = 2 ∨ k = 3 ∨ k = 4 by omega) with rfl | rfl | rfl | rfl | rfl
    · rfl
    · rw [if_neg (by decide), show am_ix (nI 1 - am_c 1) = 0 from rfl, am_gbI (by omega), t1]; rfl
    · rw [if_neg (by decide), show am_ix (nI 2 - am_c 1) = 1 from rfl, am_gbI (by omega), t2]; rfl
    · rw [if_neg (by decide), show am_ix (nI 3 - am_c 1) = 2 from rfl, am_gbI (by omega), t3]; rfl
    · rw [if_neg (by decide), show am_ix (nI 4 - am_c 1) = 3 from rfl, am_gbI (by omega), t4]; rfl
  · rw [decide_eq_false (fun z => hx z.2), if_pos (by decide), if_neg hx]
    exact ⟨μ, rfl, h, ps_kM.rf⟩
end Ops22
