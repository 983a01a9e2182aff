/-! the component's reader: small methods, units, sums -/
def ps_Pg (T0 : List ps_K) (μ0 : am_Mem) (s0 : Nat) (T : List ps_K) (cs : List Nat) (μ : am_Mem) : Prop := (∀ K, K ≠ 26 → K ≠ 34 → μ K = μ0 K) ∧ (∀ i, i < 2 ∨ 5 ≤ i → μ 26 i = μ0 26 i) ∧ (∀ i, i < s0 → μ 34 i = μ0 34 i) ∧ ps_codeC 34 cs s0 μ ∧ μ 26 4 = nI (s0 + cs.length) ∧ ps_ge T ∧ ∃ r, r + T.length = T0.length ∧ T = T0.drop r ∧ μ 26 2 = nI r ∧ μ 26 3 = nI (ps_hk T).1
def ps_Fl (μ0 : am_Mem) (e : Nat × Nat) (μ' : am_Mem) : Prop := (∀ K, K ≠ 26 → K ≠ 34 → μ' K = μ0 K) ∧ (∀ i, i < 2 ∨ 7 ≤ i → μ' 26 i = μ0 26 i) ∧ μ' 26 5 = nI e.1 ∧ μ' 26 6 = nI e.2
def ps_Oc (T0 : List ps_K) (μ0 : am_Mem) (s0 : Nat) (pre : List Nat) (r : ps_R) (X : am_R) : Prop := match r with
  | .inl e => ∃ μ', X = am_ret (some (.int (nI 0))) μ' ∧ ps_Fl μ0 e μ'
  | .inr q => ∃ μ', X = am_ret (some (.int (nI 1))) μ' ∧ ps_Pg T0 μ0 s0 q.1 (pre ++ ps_encs q.2) μ'
section ParC
variable {T0 : List ps_K} {μ0 : am_Mem} {s0 : Nat}
theorem ps_hk_get {T : List ps_K} {r : Nat} (h : T = T0.drop r) (hne : 1 ≤ T.length) : T0[r]? = some (ps_hk T) := by
  have hr : r < T0.length := by
    have := congrArg List.length h
    rw [List.length_drop] at this
    omega
  rw [List.getElem?_eq_getElem hr, h, List.drop_eq_getElem_cons hr]
  rfl
theorem w202 (d : Nat) {T : List ps_K} {cs : List Nat} {μ : am_Mem} (hk : ps_Tk T0 μ0) (h0l : T0.length ≤ 401) (h : ps_Pg T0 μ0 s0 T cs μ) (h0 : (ps_hk T).1 ≠ 0) : ∃ μ', am_call (d + 1) 202 [.ref 26] μ = am_ret none μ' ∧ ps_Pg T0 μ0 s0 T.tail cs μ' := by
  obtain ⟨a1, a2, a3, a4, a5, a6, r, b1, b2, b3, b4⟩ := h
  obtain ⟨t1, t2⟩ := a6.tail h0
  obtain ⟨-, -, u3⟩ := t1.hd
  have e2 : T.tail = T0.drop (r + 1) := by rw [b2, List.tail_drop]
  have hg := ps_hk_get e2 u3
  obtain ⟨k1, -, -⟩ := hk.2 _ _ hg
  have c28 : μ 28 = μ0 28 := a1 28 (by omega) (by omega)
  have c27 : μ 27 3 = nI T0.length := by rw [a1 27 (by omega) (by omega)]; exact hk.1
  rw [e202, q202_0, c27, b3, show nI r + am_c 1 = nI (r + 1) from nI_add r 1, if_neg (by rw [am_leN (by omega) (by omega)]; omega), q202_26, am_upS, am_ixN (by omega), am_gbI (by omega), am_upK (by omega), c28, k1]
  refine ⟨_, rfl, fun K h1 h2 => by rw [am_up_ne h1, am_up_ne h1]; exact a1 K h1 h2, fun i hi => by rw [am_upI (by omega), am_upI (by omega)]; exact a2 i hi, fun i hi => by rw [am_upK (by omega), am_upK (by omega)]; exact a3 i hi, fun j c hj => by rw [am_upK (by omega), am_upK (by omega)]; exact a4 j c hj, by rw [am_upI (by omega), am_upI (by omega)]; exact a5, t1, r + 1, by omega, e2, by rw [am_upI (by omega), am_upS], by rw [am_upS]⟩
theorem w203 (d : Nat) {T : List ps_K} {cs : List Nat} {μ : am_Mem} (hk : ps_Tk T0 μ0) (h0l : T0.length ≤ 401) (h : ps_Pg T0 μ0 s0 T cs μ) (k : Nat) : ∃ μ', am_call (d + 1) 203 [.ref 26, .int (nI k)] μ = am_ret (some (.int (nI 0))) μ' ∧ ps_Fl μ0 (k, (ps_hk T).2.1) μ' := by
  obtain ⟨a1, a2, a3, a4, a5, a6, r, b1, b2, b3, b4⟩ := h
  obtain ⟨-, -, u3⟩ := a6.hd
  obtain ⟨-, k1, -⟩ := hk.2 _ _ (ps_hk_get b2 u3)
  have c29 : μ 29 = μ0 29 := a1 29 (by omega) (by omega)
  rw [e203, q203_0, am_upI (by omega), b3, am_ixN (by omega), am_gbI (by omega), am_upK (by omega), c29, k1]
  exact ⟨_, rfl, fun K h1 h2 => by rw [am_up_ne h1, am_up_ne h1]; exact a1 K h1 h2, fun i hi => by rw [am_upI (by omega), am_upI (by omega)]; exact a2 i (by omega), by rw [am_upI (by omega), am_upS], by rw [am_upS]⟩
theorem w205 (d : Nat) {T : List ps_K} {cs : List Nat} {μ : am_Mem} (h : ps_Pg T0 μ0 s0 T cs μ) (hb : s0 + cs.length < 400) (x : Nat) : ∃ μ', am_call (d + 1) 205 [.ref 26, .int (nI x)] μ = am_ret none μ' ∧ ps_Pg T0 μ0 s0 T (cs ++ [x]) μ' := by
  obtain ⟨a1, a2, a3, a4, a5, a6, r, b1, b2, b3, b4⟩ := h
  rw [e205, q205_0, a5, if_neg (by rw [show (400 : Int32) = nI 400 from rfl, am_leN (by omega) (by omega)]; omega), am_ixN (by omega), am_gbI hb, am_upK (by omega), a5, am_cN, nI_add, q205_38]
  refine ⟨_, rfl, fun K h1 h2 => by rw [am_up_ne h1, am_up_ne h2]; exact a1 K h1 h2, fun i hi => by rw [am_upI (by omega), am_upK (by omega)]; exact a2 i hi, fun i hi => by rw [am_upK (by omega), am_upI (by omega)]; exact a3 i hi, fun j c hj => ?_, by rw [am_upS, List.length_append]; rfl, a6, r, b1, b2, by rw [am_upI (by omega), am_upK (by omega)]; exact b3, by rw [am_upI (by omega), am_upK (by omega)]; exact b4⟩
  rw [am_upK (by omega)]
  rcases ps_gap hj with ⟨g1, g2⟩ | ⟨g1, g2⟩
  · rw [am_upI (by omega)]; exact a4 j c g2
  · rw [g1, g2, am_upS]
theorem w204 (d : Nat) {T : List ps_K} {cs : List Nat} {μ : am_Mem} (hk : ps_Tk T0 μ0) (h0l : T0.length ≤ 401) (h : ps_Pg T0 μ0 s0 T cs μ) {k : Nat} (hk0 : k ≠ 0) (hk24 : k ≤ 24) : ps_Oc T0 μ0 s0 cs (if (ps_hk T).1 = k then .inr (T.tail, []) else .inl (1, (ps_hk T).2.1)) (am_call (d + 2) 204 [.ref 26, .int (nI k)] μ) := by
  have b4 : μ 26 3 = nI (ps_hk T).1 := by obtain ⟨-, -, -, -, -, -, r, -, -, -, b4⟩ := h; exact b4
  have hg := h.2.2.2.2.2.1.hd
  rw [e204, q204_0, b4]
  by_cases hc : (ps_hk T).1 = k
  · obtain ⟨μ1, a1, a2⟩ := w202 d hk h0l h (by omega)
    rw [if_pos hc, if_pos (by rw [hc]), q204_14, a1, am_bV_ret]
    exact ⟨μ1, rfl, by rw [show ps_encs [] = [] from rfl, List.append_nil]; exact a2⟩
  · obtain ⟨μ1, a1, a2⟩ := w203 d hk h0l h 1
    rw [if_neg hc, if_neg (by rw [am_eqN (by omega) (by omega)]; exact hc), show am_c 1 = nI 1 from rfl, a1, am_bI_ret, show nI 0 = am_c 0 from rfl, am_gbt0]
    exact ⟨μ1, rfl, a2⟩
/-- a unit, and what may stand behind the sign of a part -/
def ps_pV (p : Nat) (T : List ps_K) : ps_R := if p = 19 then (if (ps_hk T).1 = 2 then (if (ps_hk T).2.2 = 0 then .inl (2, (ps_hk T).2.1) else .inr (T.tail, [(0, (ps_hk T).2.2)])) else .inl (1, (ps_hk T).2.1)) else ps_pU T
theorem w211 (d : Nat) {T : List ps_K} {cs : List Nat} {μ : am_Mem} (hk : ps_Tk T0 μ0) (h0l : T0.length ≤ 401) (h : ps_Pg T0 μ0 s0 T cs μ) (hb : s0 + cs.length + T.length ≤ 401) {p : Nat} (hp : p ≤ 24) : ps_Oc T0 μ0 s0 cs (ps_pV p T) (am_call (d + 2) 211 [.ref 26, .int (nI p)] μ) := by
  obtain ⟨a1, a2, a3, a4, a5, a6, r, b1, b2, b3, b4⟩ := id h
  obtain ⟨u1, u2, u3⟩ := a6.hd
  obtain ⟨-, -, kn⟩ := hk.2 _ _ (ps_hk_get b2 u3)
  have c30 : μ 30 = μ0 30 := a1 30 (by omega) (by omega)
  have bad : ∀ k : Nat, ∃ μ', am_bI (am_call (d + 1) 203 [.ref 26, .int (nI k)] μ) (fun r1 m1 => am_gb (Nat.blt (am_ix r1) 2) (am_ret (some (.int r1)) m1)) = am_ret (some (.int (nI 0))) μ' ∧ ps_Fl μ0 (k, (ps_hk T).2.1) μ' := by
    intro k
    obtain ⟨μ1, e1, e2⟩ := w203 d hk h0l h k
    rw [e1, am_bI_ret, show nI 0 = am_c 0 from rfl, am_gbt0]
    exact ⟨μ1, rfl, e2⟩
  have okk : ∀ (x : Nat) (c : ps_C) (x2 : Value), (ps_hk T).1 ≠ 0 → ps_encs c = [x] → ∃ μ', am_bV (am_call (d + 1) 205 [.ref 26, .int (nI x)] μ) (fun m1 => am_ev (am_call (d + 1)) 211 90 [.ref 26, .int (nI p), x2] [] m1) = am_ret (some (.int (nI 1))) μ' ∧ ps_Pg T0 μ0 s0 T.tail (cs ++ ps_encs c) μ' := by
    intro x c x2 hne hc
    obtain ⟨t1, t2⟩ := a6.tail hne
    obtain ⟨-, -, v3⟩ := t1.hd
    obtain ⟨μ1, e1, e2⟩ := w205 d h (by omega) x
    obtain ⟨μ2, e3, e4⟩ := w202 d hk h0l e2 hne
    rw [e1, am_bV_ret, q211_90, e3, am_bV_ret, hc]
    exact ⟨μ2, rfl, e4⟩
  rw [e211, q211_0, b4]
  by_cases h2 : (ps_hk T).1 = 2
  · have n30 : μ 30 r = nI (ps_hk T).2.2 := by rw [c30]; exact kn h2
    have h9 := u2 h2
    rw [if_pos (by rw [h2]; rfl), b3, am_ixN (by omega), am_gbI (by omega), n30, q211_37]
    by_cases hp19 : p = 19
    · rw [if_pos (by rw [hp19]; rfl)]
      by_cases hz : (ps_hk T).2.2 = 0
      · obtain ⟨μ', e1, e2⟩ := bad 2
        rw [if_pos (by rw [hz]; rfl), show ps_pV p T = .inl (2, (ps_hk T).2.1) from by rw [ps_pV, if_pos hp19, if_pos h2, if_pos hz]]
        exact ⟨μ', e1, e2⟩
      · rw [if_neg (by rw [am_eq0 (by omega)]; exact hz), show ps_pV p T = .inr (T.tail, [(0, (ps_hk T).2.2)]) from by rw [ps_pV, if_pos hp19, if_pos h2, if_neg hz]]
        exact okk _ [(0, (ps_hk T).2.2)] _ (by omega) rfl
    · rw [if_neg (by rw [am_cN, am_eqN (by omega) (by omega)]; exact hp19), show ps_pV p T = .inr (T.tail, [(0, (ps_hk T).2.2)]) from by rw [ps_pV, if_neg hp19, ps_pU, if_pos h2]]
      exact okk _ [(0, (ps_hk T).2.2)] _ (by omega) rfl
  · rw [if_neg (by rw [am_cN, am_eqN (by omega) (by omega)]; exact h2), q211_45, b4, q211_84]
    by_cases hp19 : p = 19
    · obtain ⟨μ', e1, e2⟩ := bad 1
      rw [if_pos (by rw [hp19]; rfl), show ps_pV p T = .inl (1, (ps_hk T).2.1) from by rw [ps_pV, if_pos hp19, if_neg h2]]
      exact ⟨μ', e1, e2⟩
    · rw [if_neg (by rw [am_cN, am_eqN (by omega) (by omega)]; exact hp19)]
      by_cases hn : 9 ≤ (ps_hk T).1 ∧ (ps_hk T).1 ≤ 14
      · rw [if_neg (by rw [am_cN, am_ltN (by omega) (by omega)]; omega), if_neg (by rw [am_cN, am_ltN (by omega) (by omega)]; omega), show am_c 10000 = nI 10000 from rfl, nI_add, show ps_pV p T = .inr (T.tail, [((ps_hk T).1 - 8, 0)]) from by rw [ps_pV, if_neg hp19, ps_pU, if_neg h2, if_pos hn]]
        refine okk _ [((ps_hk T).1 - 8, 0)] _ (by omega) ?_
        rcases (show (ps_hk T).1 = 9 ∨ (ps_hk T).1 = 10 ∨ (ps_hk T).1 = 11 ∨ (ps_hk T).1 = 12 ∨ (ps_hk T).1 = 13 ∨ (ps_hk T).1 = 14 by omega) with e | e | e | e | e | e <;> rw [e] <;> rfl
      · obtain ⟨μ', e1, e2⟩ := bad 1
        rw [show ps_pV p T = .inl (1, (ps_hk T).2.1) from by rw [ps_pV, if_neg hp19, ps_pU, if_neg h2, if_neg hn]]
        by_cases h9 : (ps_hk T).1 < 9
        · rw [if_pos (by rw [am_cN, am_ltN (by omega) (by omega)]; exact h9)]
          exact ⟨μ', e1, e2⟩
        · rw [if_neg (by rw [am_cN, am_ltN (by omega) (by omega)]; exact h9), if_pos (by rw [am_cN, am_ltN (by omega) (by omega)]; omega)]
          exact ⟨μ', e1, e2⟩
end ParC
