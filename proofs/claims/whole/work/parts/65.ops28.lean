/-! most, the component: lists of sets, the choice -/
def ps_row (h : Nat) (A B : List Nat) (μ : am_Mem) : Prop := μ 51 h = nI A.length ∧ μ 53 h = nI B.length ∧ (∀ (i s : Nat), A[i]? = some s → μ 50 (h * 21 + i) = nI s) ∧ ∀ (i s : Nat), B[i]? = some s → μ 52 (h * 21 + i) = nI (ps_en (ps_bits s) 7)
theorem ps_gle {L : List Nat} {i s : Nat} (h : L[i]? = some s) : i < L.length := by
  rcases Nat.lt_or_ge i L.length with z | z
  · exact z
  · rw [List.getElem?_eq_none z] at h
    exact absurd h (by simp)
theorem ps_gap {L : List Nat} {x i s : Nat} (h : (L ++ [x])[i]? = some s) : (i < L.length ∧ L[i]? = some s) ∨ (i = L.length ∧ s = x) := by
  rw [List.getElem?_append] at h
  by_cases hi : i < L.length
  · rw [if_pos hi] at h
    exact Or.inl ⟨hi, h⟩
  · rw [if_neg hi] at h
    have h0 := ps_gle h
    rw [List.length_singleton] at h0
    have e0 : i - L.length = 0 := by omega
    rw [e0] at h
    have hx : x = s := by simpa using h
    exact Or.inr ⟨by omega, hx.symm⟩
theorem ps_row.off {h : Nat} {A B : List Nat} {μ μ' : am_Mem} (hr : ps_row h A B μ) (e : ∀ K, 50 ≤ K → K ≤ 53 → μ' K = μ K) : ps_row h A B μ' := by
  unfold ps_row
  rw [e 50 (by omega) (by omega), e 51 (by omega) (by omega), e 52 (by omega) (by omega), e 53 (by omega) (by omega)]
  exact hr
section Ops28
variable {S : ps_S}
theorem w304 (d : Nat) (hW : ps_Wf S) (hl : ps_Lw S.law) {h : Nat} (hh : h < S.w) : ∀ {μ : am_Mem}, ps_Rc 1 S μ → ps_Lc 7 S.law μ → μ 48 2 = nI S.w → ∃ μ', am_call (d + 4) 304 [.ref 48, .ref 1, .int (nI h)] μ = am_ret (some (.int (nI (ps_sg S h)))) μ' ∧ ps_off [11, 12] μ μ' := by
  have hw : S.w ≤ 16 := hW.1
  have lp : ∀ m k (μ : am_Mem), k + m = S.w → ps_Rc 1 S μ → ps_Lc 7 S.law μ → μ 48 2 = nI S.w → ∃ μ', am_ev (am_call (d + 3)) 304 5 [.ref 48, .ref 1, .int (nI h), .int (nI (ps_sel (fun k => !decide (k = h) && ps_fx S h (2 ^ k)) k)), .int (nI k)] [] μ = am_ret (some (.int (nI (ps_sg S h)))) μ' ∧ ps_off [11, 12] μ μ' := by
    intro m
    induction m with
    | zero =>
      intro k μ hk hR hL h2
      have hk : k = S.w := hk
      subst hk
      rw [q304_5, h2, if_pos (by rw [am_leN (by omega) (by omega)]; omega), q304_45]
      exact ⟨μ, rfl, ps_off.rf⟩
    | succ m ih =>
      intro k μ hk hR hL h2
      have nx : ∀ (μ1 : am_Mem) (b : Bool) (s : Nat), ps_off [11, 12] μ μ1 → (!decide (k = h) && ps_fx S h (2 ^ k)) = b → s = (ps_sel (fun k => !decide (k = h) && ps_fx S h (2 ^ k)) k ||| if b = true then 2 ^ k else 0) → ∃ μ', am_ev (am_call (d + 3)) 304 39 [.ref 48, .ref 1, .int (nI h), .int (nI s), .int (nI k)] [] μ1 = am_ret (some (.int (nI (ps_sg S h)))) μ' ∧ ps_off [11, 12] μ μ' := by
        intro μ1 b s h1 hb hs
        have s1 : ps_scC μ μ1 := ps_scC.of h1 rfl
        obtain ⟨μ', a1, a2⟩ := ih (k + 1) μ1 (by omega) (s1.R hR) (s1.L hL) (by rw [h1 48 (by decide)]; exact h2)
        rw [q304_39, am_cN, nI_add, hs, ← hb]
        exact ⟨μ', a1, h1.tr a2⟩
      rw [q304_5, h2, if_neg (by rw [am_leN (by omega) (by omega)]; omega), show am_c 1 = nI 1 from rfl, am_shl1 (by omega), am_or]
      by_cases hkh : k = h
      · rw [if_pos (by rw [hkh])]
        exact nx μ false _ ps_off.rf (by rw [decide_eq_true hkh]; rfl) (by simp)
      · have hp : 2 ^ k < 2 ^ S.w := Nat.pow_lt_pow_right (by omega) (by omega)
        obtain ⟨μ1, a1, a2⟩ := w718 d hR hL hW hl hh hp
        rw [if_neg (by rw [am_eqN (by omega) (by omega)]; exact hkh), a1, am_bI_ret]
        cases hf : ps_fx S h (2 ^ k) with
        | true =>
          rw [if_neg (by decide)]
          exact nx μ1 true _ a2 (by rw [decide_eq_false hkh, hf]; rfl) (by simp)
        | false =>
          rw [if_pos (by decide)]
          exact nx μ1 false _ a2 (by rw [decide_eq_false hkh, hf]; rfl) (by simp)
  intro μ hR hL h2
  rw [e304, q304_0]
  exact lp S.w 0 μ (by omega) hR hL h2
def ps_ln1 (S : ps_S) (h s : Nat) : Bool := decide (s &&& ps_sg S h = 0) || decide (ps_pc s = 1)
theorem w305 (d : Nat) {h s : Nat} {A B : List Nat} {μ : am_Mem} (hh : h < 7) (hs : s < 128) (hsg : ps_sg S h < 65536) (hr : ps_row h A B μ) (hA : A.length < 21) (hB : B.length ≤ A.length) : ∃ μ', am_call (d + 2) 305 [.ref 48, .int (nI h), .int (nI s), .int (nI (ps_sg S h))] μ = am_ret none μ' ∧ ps_off [50, 51, 52, 53] μ μ' ∧ ps_row h (A ++ [s]) (B ++ (if ps_ln1 S h s = true then [s] else [])) μ' ∧ ∀ h' A' B', h' ≠ h → A'.length ≤ 21 → B'.length ≤ 21 → ps_row h' A' B' μ → ps_row h' A' B' μ' := by
  obtain ⟨r1, r2, r3, r4⟩ := hr
  generalize hμ1 : am_up (am_up μ 50 (h * 21 + A.length) (nI s)) 51 h (nI (A.length + 1)) = μ1
  have o1 : ps_off [50, 51, 52, 53] μ μ1 := by rw [← hμ1]; exact (ps_off.rf.up (by decide)).up (by decide)
  have rA : μ1 51 h = nI (A ++ [s]).length ∧ ∀ (i x : Nat), (A ++ [s])[i]? = some x → μ1 50 (h * 21 + i) = nI x := by
    rw [← hμ1]
    refine ⟨by rw [am_upS, List.length_append]; rfl, fun i x hx => ?_⟩
    rw [am_upK (by omega)]
    rcases ps_gap hx with ⟨h1, h2⟩ | ⟨h1, h2⟩
    · rw [am_upI (by omega)]; exact r3 i x h2
    · rw [h1, h2, am_upS]
  have rB : μ1 53 h = nI B.length ∧ ∀ (i x : Nat), B[i]? = some x → μ1 52 (h * 21 + i) = nI (ps_en (ps_bits x) 7) := by
    rw [← hμ1]
    exact ⟨by rw [am_upK (by omega), am_upK (by omega)]; exact r2, fun i x hx => by rw [am_upK (by omega), am_upK (by omega)]; exact r4 i x hx⟩
  have rO : ∀ h' A' B', h' ≠ h → A'.length ≤ 21 → B'.length ≤ 21 → ps_row h' A' B' μ → ps_row h' A' B' μ1 := by
    intro h' A' B' hne hA' hB' hr'
    obtain ⟨q1, q2, q3, q4⟩ := hr'
    rw [← hμ1]
    refine ⟨by rw [am_upI hne, am_upK (by omega)]; exact q1, by rw [am_upK (by omega), am_upK (by omega)]; exact q2, fun i x hx => ?_, fun i x hx => by rw [am_upK (by omega), am_upK (by omega)]; exact q4 i x hx⟩
    have := ps_gle hx
    rw [am_upK (by omega), am_upI (by omega)]
    exact q3 i x hx
  have yes : ps_ln1 S h s = true → ∃ μ', am_ev (am_call (d + 1)) 305 41 [.ref 48, .int (nI h), .int (nI s), .int (nI (ps_sg S h))] [] μ1 = am_ret none μ' ∧ ps_off [50, 51, 52, 53] μ μ' ∧ ps_row h (A ++ [s]) (B ++ (if ps_ln1 S h s = true then [s] else [])) μ' ∧ ∀ h' A' B', h' ≠ h → A'.length ≤ 21 → B'.length ≤ 21 → ps_row h' A' B' μ → ps_row h' A' B' μ' := by
    intro hl
    rw [q305_41, am_ixN (by omega), am_gbI (by omega), w306 d (by omega), am_bI_ret, rB.1, show am_c 21 = nI 21 from rfl, pk_mul, nI_add, am_ixN (by omega), am_gbI (by omega), am_gbI (by omega), am_gbI (by omega), am_upK (by omega), rB.1, am_cN, nI_add, q305_71, if_pos hl]
    refine ⟨_, rfl, (o1.up (by decide)).up (by decide), ⟨?_, ?_, fun i x hx => ?_, fun i x hx => ?_⟩, fun h' A' B' hne hA' hB' hr' => ?_⟩
    · rw [am_upK (by omega), am_upK (by omega)]; exact rA.1
    · rw [am_upS, List.length_append]; rfl
    · rw [am_upK (by omega), am_upK (by omega)]; exact rA.2 i x hx
    · rw [am_upK (by omega)]
      rcases ps_gap hx with ⟨h1, h2⟩ | ⟨h1, h2⟩
      · rw [am_upI (by omega)]; exact rB.2 i x h2
      · rw [h1, h2, am_upS]
    · obtain ⟨q1, q2, q3, q4⟩ := rO h' A' B' hne hA' hB' hr'
      refine ⟨by rw [am_upK (by omega), am_upK (by omega)]; exact q1, by rw [am_upI hne, am_upK (by omega)]; exact q2, fun i x hx => by rw [am_upK (by omega), am_upK (by omega)]; exact q3 i x hx, fun i x hx => ?_⟩
      have := ps_gle hx
      rw [am_upK (by omega), am_upI (by omega)]
      exact q4 i x hx
  have ha : s &&& ps_sg S h < 2 ^ 16 := Nat.and_lt_two_pow _ hsg
  have hpc : ps_pc s ≤ 16 := ps_cnt_le _ _
  rw [e305, q305_0, am_ixN (by omega), am_gbI (by omega), r1, show am_c 21 = nI 21 from rfl, pk_mul, nI_add, am_ixN (by omega), am_gbI (by omega), am_gbI (by omega), am_gbI (by omega), am_upK (by omega), r1, show am_c 1 = nI 1 from rfl, nI_add, hμ1, am_and]
  by_cases c1 : s &&& ps_sg S h = 0
  · rw [if_pos (by rw [am_eq0 (by omega)]; exact c1)]
    exact yes (by rw [ps_ln1, decide_eq_true c1]; rfl)
  · rw [if_neg (by rw [am_eq0 (by omega)]; exact c1), c1200 d (by omega), am_bI_ret]
    by_cases c2 : ps_pc s = 1
    · rw [if_pos (by rw [c2])]
      exact yes (by rw [ps_ln1, decide_eq_true c2, Bool.or_true])
    · rw [if_neg (by rw [am_eqN (by omega) (by omega)]; exact c2), q305_71, if_neg (by rw [ps_ln1, decide_eq_false c1, decide_eq_false c2]; decide), List.append_nil]
      exact ⟨μ1, rfl, o1, ⟨rA.1, rB.1, rA.2, rB.2⟩, rO⟩
theorem w303_34 (d : Nat) (hW : ps_Wf S) (hl : ps_Lw S.law) (hw7 : S.w ≤ 7) {h : Nat} (hh : h < S.w) : ∀ k s (A B : List Nat) (μ : am_Mem), ps_Rc 1 S μ → ps_Lc 7 S.law μ → μ 48 2 = nI S.w → s + k = 2 ^ S.w → ps_row h A B μ → A ++ (ps_rg k s).filter (ps_gG S h) = ps_slS S h → B.length ≤ A.length → ∃ μ', am_ev (am_call (d + 4)) 303 34 [.ref 48, .ref 1, .int (nI h), .int (nI (ps_sg S h)), .int (nI s)] [] μ = am_ev (am_call (d + 4)) 303 87 [.ref 48, .ref 1, .int (nI h), .int (nI (ps_sg S h)), .int (nI (2 ^ S.w))] [] μ' ∧ ps_off [11, 12, 50, 51, 52, 53] μ μ' ∧ ps_row h (ps_slS S h) (B ++ ((ps_rg k s).filter (ps_gG S h)).filter (ps_ln1 S h)) μ' ∧ ∀ h' A' B', h' ≠ h → A'.length ≤ 21 → B'.length ≤ 21 → ps_row h' A' B' μ → ps_row h' A' B' μ' := by
  have p7 : 2 ^ S.w ≤ 2 ^ 7 := Nat.pow_le_pow_right (by omega) hw7
  have hlen := ps_sl_len hw7 hh
  have hsg : ps_sg S h < 65536 := by
    have := ps_sel_lt (fun k => !decide (k = h) && ps_fx S h (2 ^ k)) S.w
    have h2 : ps_sg S h < 2 ^ S.w := this
    omega
  intro k
  induction k with
  | zero =>
    intro s A B μ hR hL h2 hs hr hA hB
    have hs : s = 2 ^ S.w := hs
    subst hs
    rw [q303_34, h2, show am_c 1 = nI 1 from rfl, am_shl1 (by omega), if_pos (by rw [am_leN (by omega) (by omega)]; omega)]
    rw [ps_rg, List.filter_nil, List.append_nil] at hA
    rw [ps_rg, List.filter_nil, List.filter_nil, List.append_nil, ← hA]
    exact ⟨μ, rfl, ps_off.rf, hr, fun _ _ _ _ _ _ h => h⟩
  | succ k ih =>
    intro s A B μ hR hL h2 hs hr hA hB
    have hpc : ps_pc s ≤ 16 := ps_cnt_le _ _
    rw [q303_34, h2, show am_c 1 = nI 1 from rfl, am_shl1 (by omega), if_neg (by rw [am_leN (by omega) (by omega)]; omega), c1200 (d + 3) (by omega), am_bI_ret, am_bit (by omega) (by omega), ps_rg]
    -- a set that is not good
    have no : ∀ μ1 : am_Mem, ps_gG S h s = false → ps_off [11, 12, 50, 51, 52, 53] μ μ1 → ps_row h A B μ1 → (∀ h' A' B', h' ≠ h → A'.length ≤ 21 → B'.length ≤ 21 → ps_row h' A' B' μ → ps_row h' A' B' μ1) → ∃ μ', am_ev (am_call (d + 4)) 303 81 [.ref 48, .ref 1, .int (nI h), .int (nI (ps_sg S h)), .int (nI s)] [] μ1 = am_ev (am_call (d + 4)) 303 87 [.ref 48, .ref 1, .int (nI h), .int (nI (ps_sg S h)), .int (nI (2 ^ S.w))] [] μ' ∧ ps_off [11, 12, 50, 51, 52, 53] μ μ' ∧ ps_row h (ps_slS S h) (B ++ ((s :: ps_rg k (s + 1)).filter (ps_gG S h)).filter (ps_ln1 S h)) μ' ∧ ∀ h' A' B', h' ≠ h → A'.length ≤ 21 → B'.length ≤ 21 → ps_row h' A' B' μ → ps_row h' A' B' μ' := by
      intro μ1 hg o1 r1 ro
      have s1 : ps_scC μ μ1 := ps_scC.of o1 rfl
      rw [ps_rg, List.filter_cons_of_neg (by simp [hg])] at hA
      obtain ⟨μ', a1, a2, a3, a4⟩ := ih (s + 1) A B μ1 (s1.R hR) (s1.L hL) (by rw [o1 48 (by decide)]; exact h2) (by omega) r1 hA hB
      rw [q303_81, am_cN, nI_add, a1, List.filter_cons_of_neg (by simp [hg])]
      exact ⟨μ', rfl, o1.tr a2, a3, fun h' A' B' hne hA' hB' hr' => a4 h' A' B' hne hA' hB' (ro h' A' B' hne hA' hB' hr')⟩
    by_cases c1 : ps_pc s ≤ 2
    · rw [if_neg (by rw [am_cN, am_ltN (by omega) (by omega)]; omega)]
      cases c2 : s.testBit h with
      | true =>
        rw [if_neg (by decide)]
        exact no μ (by rw [ps_gG, c2]; simp) ps_off.rf hr (fun _ _ _ _ _ _ h => h)
      | false =>
        obtain ⟨μ1, a1, a2⟩ := w718 (d + 1) hR hL hW hl hh (show s < 2 ^ S.w by omega)
        have o1 : ps_off [11, 12, 50, 51, 52, 53] μ μ1 := a2.mono (by simp)
        have rr : ∀ h' A' B', ps_row h' A' B' μ → ps_row h' A' B' μ1 := fun h' A' B' hr' => hr'.off (fun K h1 h2 => a2 K (by simp; omega))
        rw [if_pos (by decide), a1, am_bI_ret]
        cases c3 : ps_fx S h s with
        | false =>
          rw [if_pos (by decide)]
          exact no μ1 (by rw [ps_gG, c3]; simp) o1 (rr _ _ _ hr) (fun h' A' B' _ _ _ hr' => rr h' A' B' hr')
        | true =>
          have hg : ps_gG S h s = true := by rw [ps_gG, c2, c3, decide_eq_true c1]; rfl
          rw [ps_rg, List.filter_cons_of_pos hg] at hA
          have hAl : A.length < 21 := by
            have := congrArg List.length hA
            rw [List.length_append, List.length_cons] at this
            omega
          obtain ⟨μ2, b1, b2, b3, b4⟩ := w305 (S := S) (d + 2) (h := h) (s := s) (A := A) (B := B) (μ := μ1) (by omega) (by omega) hsg (rr _ _ _ hr) hAl hB
          have o2 : ps_off [11, 12, 50, 51, 52, 53] μ μ2 := o1.tr (b2.mono (by simp))
          have s2 : ps_scC μ μ2 := ps_scC.of o2 rfl
          obtain ⟨μ', e1, e2, e3, e4⟩ := ih (s + 1) (A ++ [s]) (B ++ (if ps_ln1 S h s = true then [s] else [])) μ2 (s2.R hR) (s2.L hL) (by rw [o2 48 (by decide)]; exact h2) (by omega) b3 (by rw [List.append_assoc]; exact hA) (by
            rw [List.length_append, List.length_append, List.length_singleton]
            split
            · rw [List.length_singleton]; omega
            · rw [List.length_nil]; omega)
          rw [if_neg (by decide), b1, am_bV_ret, q303_81, am_cN, nI_add, e1, List.filter_cons_of_pos hg]
          refine ⟨μ', rfl, o2.tr e2, ?_, fun h' A' B' hne hA' hB' hr' => e4 h' A' B' hne hA' hB' (b4 h' A' B' hne hA' hB' (rr h' A' B' hr'))⟩
          rw [List.append_assoc] at e3
          cases hln : ps_ln1 S h s with
          | true =>
            rw [hln, if_pos rfl] at e3
            rw [List.filter_cons_of_pos hln]
            exact e3
          | false =>
            rw [hln, if_neg (by decide), List.nil_append] at e3
            rw [List.filter_cons_of_neg (by simp [hln])]
            exact e3
    · rw [if_pos (by rw [am_cN, am_ltN (by omega) (by omega)]; omega)]
      exact no μ (by rw [ps_gG, decide_eq_false c1]; rfl) ps_off.rf hr (fun _ _ _ _ _ _ h => h)
theorem w303_2 (d : Nat) (hW : ps_Wf S) (hl : ps_Lw S.law) (hw7 : S.w ≤ 7) : ∀ k h (x3 x4 : Value) (μ : am_Mem), ps_Rc 1 S μ → ps_Lc 7 S.law μ → μ 48 2 = nI S.w → h + k = S.w → (∀ h', h' < h → ps_row h' (ps_slS S h') (ps_llS S h') μ) → ∃ μ' y3 y4, am_ev (am_call (d + 4)) 303 2 [.ref 48, .ref 1, .int (nI h), x3, x4] [] μ = am_ev (am_call (d + 4)) 303 93 [.ref 48, .ref 1, .int (nI S.w), y3, y4] [] μ' ∧ ps_off [11, 12, 50, 51, 52, 53] μ μ' ∧ ∀ h', h' < S.w → ps_row h' (ps_slS S h') (ps_llS S h') μ' := by
  intro k
  induction k with
  | zero =>
    intro h x3 x4 μ hR hL h2 hk hr
    have hk : h = S.w := hk
    subst hk
    rw [q303_2, h2, if_pos (by rw [am_leN (by omega) (by omega)]; omega)]
    exact ⟨μ, _, _, rfl, ps_off.rf, hr⟩
  | succ k ih =>
    intro h x3 x4 μ hR hL h2 hk hr
    have hp := Nat.two_pow_pos S.w
    generalize hμ0 : am_up (am_up μ 51 h (nI 0)) 53 h (nI 0) = μ0
    have o0 : ps_off [11, 12, 50, 51, 52, 53] μ μ0 := by rw [← hμ0]; exact (ps_off.rf.up (by decide)).up (by decide)
    have s0 : ps_scC μ μ0 := ps_scC.of o0 rfl
    have h20 : μ0 48 2 = nI S.w := by rw [o0 48 (by decide)]; exact h2
    have r0 : ps_row h [] [] μ0 := by
      rw [← hμ0]
      exact ⟨by rw [am_upK (by omega), am_upS]; rfl, by rw [am_upS]; rfl, fun i s hs => by simp at hs, fun i s hs => by simp at hs⟩
    have ro : ∀ h', h' < h → ps_row h' (ps_slS S h') (ps_llS S h') μ0 := fun h' hh' => by
      obtain ⟨q1, q2, q3, q4⟩ := hr h' hh'
      rw [← hμ0]
      exact ⟨by rw [am_upK (by omega), am_upI (by omega)]; exact q1, by rw [am_upI (by omega), am_upK (by omega)]; exact q2, fun i s hs => by rw [am_upK (by omega), am_upK (by omega)]; exact q3 i s hs, fun i s hs => by rw [am_upK (by omega), am_upK (by omega)]; exact q4 i s hs⟩
    obtain ⟨μ1, a1, a2⟩ := w304 d hW hl (h := h) (by omega) (s0.R hR) (s0.L hL) h20
    have s1 : ps_scC μ0 μ1 := ps_scC.of a2 rfl
    have rr : ∀ h' A' B', ps_row h' A' B' μ0 → ps_row h' A' B' μ1 := fun h' A' B' hr' => hr'.off (fun K h1 h2 => a2 K (by simp; omega))
    have hR1 := s1.R (s0.R hR)
    have hL1 := s1.L (s0.L hL)
    obtain ⟨μ2, b1, b2, b3, b4⟩ := w303_34 d hW hl hw7 (h := h) (by omega) (2 ^ S.w - 1) 1 [] [] μ1 hR1 hL1 (by rw [a2 48 (by decide)]; exact h20) (by omega) (rr _ _ _ r0) (by rw [List.nil_append]; rfl) (Nat.le_refl _)
    have o2 : ps_off [11, 12, 50, 51, 52, 53] μ μ2 := (o0.tr (a2.mono (by simp))).tr b2
    have s2 : ps_scC μ μ2 := ps_scC.of o2 rfl
    have b3 : ps_row h (ps_slS S h) (ps_llS S h) μ2 := b3
    obtain ⟨μ', y3, y4, e1, e2, e3⟩ := ih (h + 1) (.int (nI (ps_sg S h))) (.int (nI (2 ^ S.w))) μ2 (s2.R hR) (s2.L hL) (by rw [o2 48 (by decide)]; exact h2) (by omega) (fun h' hh' => by
      by_cases hhh : h' = h
      · rw [hhh]; exact b3
      · exact b4 h' _ _ hhh (ps_sl_len hw7 (by omega)) (ps_ll_len hw7 (by omega)) (rr _ _ _ (ro h' (by omega))))
    rw [q303_2, h2, if_neg (by rw [am_leN (by omega) (by omega)]; omega), am_ixN (by omega), am_gbI (by omega), am_gbI (by omega), show am_c 0 = nI 0 from rfl, hμ0, a1, am_bI_ret, show am_c 1 = nI 1 from rfl, b1, q303_87, show am_c 1 = nI 1 from rfl, nI_add, e1]
    exact ⟨μ', y3, y4, rfl, o2.tr e2, e3⟩
theorem w303_110 (d : Nat) (hw7 : S.w ≤ 7) : ∀ k j (x3 x4 : Value) (μ : am_Mem), j + k = S.w → (∀ h', h' < S.w → ps_row h' (ps_slS S h') (ps_llS S h') μ) → (∀ i, i ≤ j → μ 54 (S.w - i) = nI (ps_tlS S i)) → ∃ μ', am_ev (am_call (d + 4)) 303 110 [.ref 48, .ref 1, .int (nI (S.w - j) - nI 1), x3, x4] [] μ = am_ret none μ' ∧ ps_off [54] μ μ' ∧ ∀ i, i ≤ S.w → μ' 54 (S.w - i) = nI (ps_tlS S i) := by
  intro k
  induction k with
  | zero =>
    intro j x3 x4 μ hj hr h54
    have hj : j = S.w := hj
    subst hj
    rw [Nat.sub_self, q303_110, if_pos (by decide), q303_149]
    exact ⟨μ, rfl, ps_off.rf, h54⟩
  | succ k ih =>
    intro j x3 x4 μ hj hr h54
    obtain ⟨h, hh⟩ : ∃ h, S.w - j = h + 1 := ⟨S.w - j - 1, by omega⟩
    have hlen := ps_sl_len hw7 (h := h) (by omega)
    have htl : ps_tlS S (j + 1) = ps_tlS S j + (if 0 < (ps_slS S h).length then 1 else 0) := by
      show ps_tl (ps_gG S) S.w (j + 1) = _
      rw [ps_tl, show S.w - (j + 1) = h by omega]
    have e54 : μ 54 (h + 1) = nI (ps_tlS S j) := by rw [← hh]; exact h54 j (Nat.le_refl _)
    have nx : ∀ t : Nat, t = (if 0 < (ps_slS S h).length then 1 else 0) → ∃ μ', am_ev (am_call (d + 4)) 303 141 [.ref 48, .ref 1, .int (nI h), x3, x4] [.int (nI t), .int (nI (ps_tlS S j)), .int (nI h), .ref 54] μ = am_ret none μ' ∧ ps_off [54] μ μ' ∧ ∀ i, i ≤ S.w → μ' 54 (S.w - i) = nI (ps_tlS S i) := by
      intro t ht
      have hm : nI h + am_c (-1) = nI (S.w - (j + 1)) - nI 1 := by
        rw [show S.w - (j + 1) = h by omega]
        cases h with
        | zero => decide
        | succ h' => rw [show nI (h' + 1) + am_c (-1) = nI h' from pk_m1 _, pk_sub (by omega), Nat.add_sub_cancel]
      obtain ⟨μ', a1, a2, a3⟩ := ih (j + 1) x3 x4 (am_up μ 54 h (nI (ps_tlS S j + t))) (by omega) (fun h' hh' => (hr h' hh').off (fun K h1 h2 => by rw [am_up_ne (by omega)])) (fun i hi => by
        by_cases hij : i = j + 1
        · subst hij
          rw [show S.w - (j + 1) = h by omega, am_upS, htl, ht]
        · rw [am_upI (by omega)]; exact h54 i (by omega))
      rw [q303_141, am_ixN (by omega), am_gbI (by omega), nI_add, hm, a1]
      exact ⟨μ', rfl, (ps_off.rf.up (by decide)).tr a2, a3⟩
    rw [hh, pk_sub (by omega), Nat.add_sub_cancel, q303_110, if_neg (nI_pos (by omega)), show am_c 1 = nI 1 from rfl, nI_add, am_ixN (by omega), am_gbI (by omega), am_ixN (by omega), am_gbI (by omega), e54, (hr h (by omega)).1, q303_140]
    by_cases hc : 0 < (ps_slS S h).length
    · rw [if_neg (by rw [show (0 : Int32) = nI 0 from rfl, am_leN (by omega) (by omega)]; omega)]
      exact nx 1 (by rw [if_pos hc])
    · rw [if_pos (by rw [show (0 : Int32) = nI 0 from rfl, am_leN (by omega) (by omega)]; omega)]
      exact nx 0 (by rw [if_neg hc])
theorem w303 (d : Nat) (hW : ps_Wf S) (hl : ps_Lw S.law) (hw7 : S.w ≤ 7) {μ : am_Mem} (hR : ps_Rc 1 S μ) (hL : ps_Lc 7 S.law μ) (h2 : μ 48 2 = nI S.w) : ∃ μ', am_call (d + 5) 303 [.ref 48, .ref 1] μ = am_ret none μ' ∧ ps_off [11, 12, 50, 51, 52, 53, 54] μ μ' ∧ ps_Pm S μ' := by
  obtain ⟨μ1, y3, y4, a1, a2, a3⟩ := w303_2 d hW hl hw7 S.w 0 .null .null μ hR hL h2 (by omega) (fun h' hh' => by omega)
  have h21 : μ1 48 2 = nI S.w := by rw [a2 48 (by decide)]; exact h2
  obtain ⟨μ2, b1, b2, b3⟩ := w303_110 d hw7 S.w 0 y3 y4 (am_up μ1 54 S.w (nI 0)) (by omega) (fun h' hh' => (a3 h' hh').off (fun K h1 h2 => by rw [am_up_ne (by omega)])) (fun i hi => by
    have hi : i = 0 := by omega
    subst hi
    rw [Nat.sub_zero, am_upS]
    rfl)
  rw [Nat.sub_zero] at b1
  rw [e303, q303_0, show am_c 0 = nI 0 from rfl, a1, q303_93, h21, am_ixN (by omega), am_gbI (by omega), show am_c 0 = nI 0 from rfl, am_upK (by omega), h21, am_cN, b1]
  refine ⟨μ2, rfl, ((a2.mono (by simp)).up (by decide)).tr (b2.mono (by simp)), ?_, fun h hh => ?_, b3⟩
  · rw [b2 48 (by decide), am_upK (by omega)]; exact h21
  · obtain ⟨q1, q2, q3, q4⟩ := a3 h hh
    have e : ∀ K, K ≠ 54 → μ2 K = μ1 K := fun K hK => by rw [b2 K (by simpa using hK), am_up_ne hK]
    rw [e 50 (by omega), e 51 (by omega), e 52 (by omega), e 53 (by omega)]
    exact ⟨q1, q2, q3, q4⟩
end Ops28
