/-! tokens, the model's -/
def ps_mtl : List Nat := [0, 1, 2, 20, 21, 3, 4, 5, 6, 41, 42, 43, 44, 45, 46, 159, 143, 145, 142, 147, 140, 141, 160, 161, 162]
def ps_mt (k : Nat) : Nat := ps_mtl.getD k 1
def ps_se (tp : Nat → Nat) (tl k : Nat) : Int32 := if k < tl then nI (tp k) else am_c (-1)
section TokM
variable {tp : Nat → Nat} {tl : Nat} {μ : am_Mem}
/-- the model's tape -/
def ps_Mt (tp : Nat → Nat) (tl : Nat) (μ : am_Mem) : Prop := tl ≤ 400 ∧ μ 56 13 = nI tl ∧ ∀ k, k < tl → tp k < 256 ∧ μ 63 k = nI (tp k)
theorem ps_Mt.off {μ' : am_Mem} (h : ps_Mt tp tl μ) (e1 : μ' 56 13 = μ 56 13) (e2 : μ' 63 = μ 63) : ps_Mt tp tl μ' := ⟨h.1, by rw [e1]; exact h.2.1, fun k hk => by rw [e2]; exact h.2.2 k hk⟩
theorem v1020 (d : Nat) (h : ps_Mt tp tl μ) {k : Nat} (hk : k ≤ 400) : am_call (d + 1) 1020 [.ref 56, .int (nI k)] μ = am_ret (some (.int (ps_se tp tl k))) μ := by
  obtain ⟨h1, h2, h3⟩ := h
  rw [e1020, q1020_0, h2, q1020_17, q1020_18, ps_se]
  by_cases hc : k < tl
  · rw [if_neg (by rw [am_leN (by omega) (by omega)]; omega), if_pos hc, am_ixN (by omega), am_gbI (by omega), (h3 k hc).2, q1020_18]
  · rw [if_pos (by rw [am_leN (by omega) (by omega)]; omega), if_neg hc]
def ps_isL' (tp : Nat → Nat) (tl k : Nat) : Bool := decide (k < tl) && ps_isL (tp k)
def ps_isD' (tp : Nat → Nat) (tl k : Nat) : Bool := decide (k < tl) && ps_isD (tp k)
theorem ps_se_ix (h : ps_Mt tp tl μ) (k : Nat) : am_ix (ps_se tp tl k) = if k < tl then tp k else 4294967295 := by
  unfold ps_se
  split
  · rename_i hk
    have := (h.2.2 k hk).1
    rw [am_ixN (by omega)]
  · exact am_ixm1
theorem v1022 (d : Nat) (h : ps_Mt tp tl μ) (k : Nat) : am_call (d + 2) 1022 [.int (ps_se tp tl k)] μ = am_ret (some (.int (nI (ps_isD' tp tl k).toNat))) μ := by
  rw [e1022, q1022_0, show am_c 48 = nI 48 from rfl, show am_c 57 = nI 57 from rfl, m1001c d _ (by omega) (by omega), am_bI_ret, am_gbb]
  congr 5
  rw [ps_se_ix h k, ps_isD', ps_isD]
  by_cases hk : k < tl
  · rw [if_pos hk, decide_eq_true hk, Bool.true_and, Bool.decide_and]
  · rw [if_neg hk, decide_eq_false hk, Bool.false_and]
    exact decide_eq_false (by omega)
theorem v1021 (d : Nat) (h : ps_Mt tp tl μ) (k : Nat) : am_call (d + 2) 1021 [.int (ps_se tp tl k)] μ = am_ret (some (.int (nI (ps_isL' tp tl k).toNat))) μ := by
  rw [e1021, q1021_0, show am_c 97 = nI 97 from rfl, show am_c 122 = nI 122 from rfl, show am_c 65 = nI 65 from rfl, show am_c 90 = nI 90 from rfl, m1001c d _ (by omega) (by omega), am_bI_ret, m1001c d _ (by omega) (by omega), am_bI_ret, q1021_22, q1021_26, q1021_27, q1021_27, am_gbt0, am_gbt1, ps_se_ix h k, ps_isL', ps_isL]
  by_cases hk : k < tl
  · rw [if_pos hk, decide_eq_true hk, Bool.true_and, Bool.decide_and, Bool.decide_and]
    cases (decide (97 ≤ tp k) && decide (tp k ≤ 122)) with
    | true => rw [if_neg (by decide)]; rfl
    | false =>
      rw [if_pos (by decide)]
      cases (decide (65 ≤ tp k) && decide (tp k ≤ 90)) with
      | true => rw [if_neg (by decide)]; rfl
      | false => rw [if_pos (by decide)]; rfl
  · rw [if_neg hk, decide_eq_false hk, Bool.false_and, decide_eq_false (show ¬ (97 ≤ 4294967295 ∧ 4294967295 ≤ 122) by omega), decide_eq_false (show ¬ (65 ≤ 4294967295 ∧ 4294967295 ≤ 90) by omega), if_pos (by decide), if_pos (by decide)]
    rfl
theorem v1023 (d : Nat) (h : ps_Mt tp tl μ) {x i to : Nat} (hx : x < 12) (hit : i ≤ to) (hto : to ≤ tl) (h14 : μ 56 14 = nI to) (h16 : μ 56 16 = nI i) : am_call (d + 5) 1023 [.ref 56, .retAddr x] μ = am_ret (some (.int (nI (decide (ps_seg tp i (to - i) = ps_kwl.getD x [])).toNat))) μ := by
  have h6 := ps_sl6 x (by omega)
  have htl := h.1
  rw [e1023, q1023_0, am_gbI (by omega), w1400 (d + 2) (by omega), am_bI_ret, h14, h16, pk_sub hit, q1023_20, q1023_21, q1023_21]
  by_cases hl : to - i = am_slen x
  · have lp : ∀ m j, j + m = am_slen x → (∀ j', j' < j → tp (i + j') = (ps_kwl.getD x []).getD j' 0) → am_ev (am_call (d + 4)) 1023 24 [.ref 56, .retAddr x, .int (am_c 1), .int (nI j)] [] μ = am_ret (some (.int (nI (decide (ps_seg tp i (to - i) = ps_kwl.getD x [])).toNat))) μ := by
      intro m
      induction m with
      | zero =>
        intro j hj hd
        have hj : j = am_slen x := hj
        subst hj
        rw [q1023_24, am_gbI (by omega), w1400 (d + 2) (by omega), am_bI_ret, if_pos (by rw [am_leN (by omega) (by omega)]; omega), q1023_67, am_gbt1, decide_eq_true ((ps_seg_eq hx hl).mpr hd)]
        rfl
      | succ m ih =>
        intro j hj hd
        obtain ⟨c1, c2⟩ := ps_kwch x hx j (by omega)
        obtain ⟨b1, b2⟩ := h.2.2 (i + j) (by omega)
        rw [q1023_24, am_gbI (by omega), w1400 (d + 2) (by omega), am_bI_ret, if_neg (by rw [am_leN (by omega) (by omega)]; omega), if_neg (by decide), h16, nI_add, am_ixN (by omega), am_gbI (by omega), am_gbI (by omega), w1401 d (by omega) (by omega), am_bI_ret, b2, c1, q1023_59, q1023_60, q1023_60, show nI j + am_c 1 = nI (j + 1) from nI_add j 1]
        by_cases he : tp (i + j) = (ps_kwl.getD x []).getD j 0
        · rw [if_pos (by rw [he])]
          exact ih (j + 1) (by omega) (fun j' hj' => by
            by_cases e : j' = j
            · rw [e]; exact he
            · exact hd j' (by omega))
        · rw [if_neg (by rw [am_eqN (by omega) (by omega)]; exact he), q1023_24, am_gbI (by omega), w1400 (d + 2) (by omega), am_bI_ret, if_pos (show am_c 0 = 0 from rfl), q1023_67, am_gbt0, decide_eq_false (fun z => he ((ps_seg_eq hx hl).mp z j (by omega)))]
          split <;> rfl
    rw [if_pos (by rw [hl])]
    exact lp (am_slen x) 0 (by omega) (fun j' hj' => by omega)
  · rw [if_neg (by rw [am_eqN (by omega) (by omega)]; exact hl), q1023_24, am_gbI (by omega), w1400 (d + 2) (by omega), am_bI_ret, if_pos (show am_c 0 = 0 from rfl), q1023_67, am_gbt0, decide_eq_false (fun z => hl (by
      have := congrArg List.length z
      rw [ps_seg_len, ps_kwlen x hx] at this
      exact this))]
    split <;> rfl
theorem v1025 (d : Nat) (h : ps_Mt tp tl μ) {i to : Nat} (hit : i ≤ to) (hto : to ≤ tl) (h14 : μ 56 14 = nI to) (h16 : μ 56 16 = nI i) : am_call (d + 7) 1025 [.ref 56] μ = am_ret (some (.int (nI (ps_mt (ps_kwk (ps_seg tp i (to - i))))))) μ := by
  have K : ∀ dd x, x < 12 → am_call (dd + 5) 1023 [.ref 56, .retAddr x] μ = am_ret (some (.int (nI (decide (ps_seg tp i (to - i) = ps_kwl.getD x [])).toNat))) μ := fun dd x hx => v1023 dd h hx hit hto h14 h16
  have nm : am_call (d + 6) 1024 [.ref 56] μ = am_ret (some (.int (if ps_seg tp i (to - i) = ps_kwl.getD 6 [] then am_c 41 else if ps_seg tp i (to - i) = ps_kwl.getD 7 [] then am_c 42 else if ps_seg tp i (to - i) = ps_kwl.getD 8 [] then am_c 43 else if ps_seg tp i (to - i) = ps_kwl.getD 9 [] then am_c 44 else if ps_seg tp i (to - i) = ps_kwl.getD 10 [] then am_c 45 else if ps_seg tp i (to - i) = ps_kwl.getD 11 [] then am_c 46 else am_c 1))) μ := by
    rw [e1024, q1024_0, K d 6 (by omega), am_bI_ret, q1024_12, K d 7 (by omega), am_bI_ret, q1024_24, K d 8 (by omega), am_bI_ret, q1024_36, K d 9 (by omega), am_bI_ret, q1024_48, K d 10 (by omega), am_bI_ret, q1024_60, K d 11 (by omega), am_bI_ret, q1024_74, q1024_75, q1024_75]
    simp only [am_dec0, am_ret_ite, ite_not]
  rw [e1025, q1025_0, K (d + 1) 2 (by omega), am_bI_ret, q1025_11, K (d + 1) 3 (by omega), am_bI_ret, q1025_22, K (d + 1) 4 (by omega), am_bI_ret, q1025_33, K (d + 1) 5 (by omega), am_bI_ret, q1025_45, K (d + 1) 0 (by omega), am_bI_ret, q1025_57, K (d + 1) 1 (by omega), am_bI_ret, q1025_71, nm, am_bI_ret, q1025_75, q1025_75]
  simp only [am_dec0, am_ret_ite, ite_not]
  congr 3
  generalize ps_seg tp i (to - i) = sg
  by_cases h0 : sg = ps_kwl.getD 0 []
  · subst h0; decide
  by_cases h1 : sg = ps_kwl.getD 1 []
  · subst h1; decide
  by_cases h2 : sg = ps_kwl.getD 2 []
  · subst h2; decide
  by_cases h3 : sg = ps_kwl.getD 3 []
  · subst h3; decide
  by_cases h4 : sg = ps_kwl.getD 4 []
  · subst h4; decide
  by_cases h5 : sg = ps_kwl.getD 5 []
  · subst h5; decide
  by_cases h6 : sg = ps_kwl.getD 6 []
  · subst h6; decide
  by_cases h7 : sg = ps_kwl.getD 7 []
  · subst h7; decide
  by_cases h8 : sg = ps_kwl.getD 8 []
  · subst h8; decide
  by_cases h9 : sg = ps_kwl.getD 9 []
  · subst h9; decide
  by_cases h10 : sg = ps_kwl.getD 10 []
  · subst h10; decide
  by_cases h11 : sg = ps_kwl.getD 11 []
  · subst h11; decide
  rw [if_neg h2, if_neg h3, if_neg h4, if_neg h5, if_neg h0, if_neg h1, if_neg h6, if_neg h7, if_neg h8, if_neg h9, if_neg h10, if_neg h11, ps_kwk]
  rw [ps_kwf, if_neg h0, ps_kwf, if_neg h1, ps_kwf, if_neg h2, ps_kwf, if_neg h3, ps_kwf, if_neg h4, ps_kwf, if_neg h5, ps_kwf, if_neg h6, ps_kwf, if_neg h7, ps_kwf, if_neg h8, ps_kwf, if_neg h9, ps_kwf, if_neg h10, ps_kwf, if_neg h11, ps_kwf]
  rfl
/-- the model stands on the token q, with the tokens T behind it -/
def ps_Mn (tp : Nat → Nat) (tl : Nat) (T : List ps_K) (μ : am_Mem) : Prop := match T with
  | [] => False
  | q :: R => μ 56 15 = nI (ps_mt q.1) ∧ μ 56 16 = nI q.2.1 ∧ (q.1 = 2 → μ 56 17 = nI q.2.2) ∧ (q.1 = 0 ∨ ∃ p, p ≤ tl ∧ μ 56 14 = nI p ∧ R = ps_tks tp tl (tl - p) p)
def ps_o6 (μ μ' : am_Mem) : Prop := (∀ K, K ≠ 56 → μ' K = μ K) ∧ ∀ i, i ≠ 14 → i ≠ 15 → i ≠ 16 → i ≠ 17 → μ' 56 i = μ 56 i
theorem ps_o6.rf (μ : am_Mem) : ps_o6 μ μ := ⟨fun _ _ => rfl, fun _ _ _ _ _ => rfl⟩
theorem ps_o6.tr {μ1 μ2 : am_Mem} (h : ps_o6 μ μ1) (h' : ps_o6 μ1 μ2) : ps_o6 μ μ2 := ⟨fun K hK => (h'.1 K hK).trans (h.1 K hK), fun i a b c e => (h'.2 i a b c e).trans (h.2 i a b c e)⟩
theorem ps_o6.up {μ1 : am_Mem} (h : ps_o6 μ μ1) {i : Nat} {x : Int32} (hi : 14 ≤ i) (hi' : i ≤ 17) : ps_o6 μ (am_up μ1 56 i x) := ⟨fun K hK => by rw [am_up_ne hK]; exact h.1 K hK, fun j a b c e => by rw [am_upI (by omega)]; exact h.2 j a b c e⟩
theorem ps_o6.M {μ' : am_Mem} (h : ps_o6 μ μ') (hM : ps_Mt tp tl μ) : ps_Mt tp tl μ' := hM.off (h.2 13 (by omega) (by omega) (by omega) (by omega)) (h.1 63 (by omega))
theorem ps_isB_LD {n : Nat} (h : ps_isB n = true) : ps_isL n = false ∧ ps_isD n = false := by
  rw [ps_isB, Bool.or_eq_true, decide_eq_true_eq, decide_eq_true_eq] at h
  rcases h with rfl | rfl <;> exact ⟨by decide, by decide⟩
theorem ps_sgm : ∀ n, n < 256 → (if n = 59 ∨ n = 43 ∨ n = 45 ∨ n = 42 ∨ n = 47 ∨ n = 40 ∨ n = 41 ∨ n = 60 ∨ n = 61 ∨ n = 62 then 100 + n else 1) = ps_mt (ps_sgk n) := by decide +kernel
theorem v1026_w (d : Nat) (hM : ps_Mt tp tl μ) {i : Nat} (hi : i < tl) (hL : ps_isL (tp i) = true) (x1 : Int32) (x2 : Value) (h14 : μ 56 14 = nI i) (h16 : μ 56 16 = nI i) : ∃ μ', am_ev (am_call (d + 7)) 1026 76 [.ref 56, .int x1, x2] [] μ = am_ret none μ' ∧ ps_o6 μ μ' ∧ μ' 56 15 = nI (ps_mt (ps_kwk (ps_seg tp i (ps_eot tp tl i - i)))) ∧ μ' 56 16 = nI i ∧ μ' 56 14 = nI (ps_eot tp tl i) := by
  have htl := hM.1
  have he := ps_eot_le (tp := tp) hi
  have lp : ∀ k j (μ1 : am_Mem), j + k = tl → i < j → ps_o6 μ μ1 → μ1 56 14 = nI j → μ1 56 16 = nI i → ps_end' ps_isL tp k j = ps_eot tp tl i → ∃ μ', am_ev (am_call (d + 7)) 1026 76 [.ref 56, .int x1, x2] [] μ1 = am_ret none μ' ∧ ps_o6 μ μ' ∧ μ' 56 15 = nI (ps_mt (ps_kwk (ps_seg tp i (ps_eot tp tl i - i)))) ∧ μ' 56 16 = nI i ∧ μ' 56 14 = nI (ps_eot tp tl i) := by
    intro k
    have fin : ∀ j (μ1 : am_Mem), j = ps_eot tp tl i → ps_o6 μ μ1 → μ1 56 14 = nI j → μ1 56 16 = nI i → ps_isL' tp tl j = false → ∃ μ', am_ev (am_call (d + 7)) 1026 76 [.ref 56, .int x1, x2] [] μ1 = am_ret none μ' ∧ ps_o6 μ μ' ∧ μ' 56 15 = nI (ps_mt (ps_kwk (ps_seg tp i (ps_eot tp tl i - i)))) ∧ μ' 56 16 = nI i ∧ μ' 56 14 = nI (ps_eot tp tl i) := by
      intro j μ1 hj o1 e14 e16 hno
      subst hj
      have hM1 := o1.M hM
      rw [q1026_76, e14, v1020 (d + 6) hM1 (by omega), am_bI_ret, v1021 (d + 5) hM1, am_bI_ret, hno, if_pos (by decide), q1026_103, v1025 d hM1 (i := i) (by omega) he.2 e14 e16, am_bI_ret, q1026_306]
      exact ⟨_, rfl, o1.up (by omega) (by omega), am_upS _ _ _ _, by rw [am_upI (by omega)]; exact e16, by rw [am_upI (by omega)]; exact e14⟩
    induction k with
    | zero =>
      intro j μ1 hj hij o1 e14 e16 hend
      have hend : j = ps_eot tp tl i := hend
      exact fin j μ1 hend o1 e14 e16 (by rw [ps_isL', decide_eq_false (by omega)]; rfl)
    | succ k ih =>
      intro j μ1 hj hij o1 e14 e16 hend
      rw [ps_end'] at hend
      cases hc : ps_isL (tp j) with
      | false =>
        rw [hc, if_neg (by decide)] at hend
        exact fin j μ1 hend o1 e14 e16 (by rw [ps_isL', hc, Bool.and_false])
      | true =>
        rw [hc, if_pos rfl] at hend
        have hM1 := o1.M hM
        obtain ⟨μ', r⟩ := ih (j + 1) (am_up μ1 56 14 (nI (j + 1))) (by omega) (by omega) (o1.up (by omega) (by omega)) (am_upS _ _ _ _) (by rw [am_upI (by omega)]; exact e16) hend
        rw [q1026_76, e14, v1020 (d + 6) hM1 (by omega), am_bI_ret, v1021 (d + 5) hM1, am_bI_ret, ps_isL', hc, decide_eq_true (show j < tl by omega), if_neg (by decide), e14, am_cN, nI_add]
        exact ⟨μ', r⟩
  have e1 : ps_end' ps_isL tp (tl - (i + 1)) (i + 1) = ps_eot tp tl i := by rw [ps_eot, if_pos hL]
  obtain ⟨μ', r1, r2, r3⟩ := lp (tl - (i + 1)) (i + 1) (am_up μ 56 14 (nI (i + 1))) (by omega) (by omega) ((ps_o6.rf μ).up (by omega) (by omega)) (am_upS _ _ _ _) (by rw [am_upI (by omega)]; exact h16) e1
  rw [q1026_76, h14, v1020 (d + 6) hM (by omega), am_bI_ret, v1021 (d + 5) hM, am_bI_ret, ps_isL', hL, decide_eq_true hi, if_neg (by decide), h14, am_cN, nI_add]
  exact ⟨μ', r1, r2, r3⟩
theorem v1026_d (d : Nat) (hM : ps_Mt tp tl μ) {i : Nat} (hi : i < tl) (hD : ps_isD (tp i) = true) (x1 : Int32) (x2 : Value) (h14 : μ 56 14 = nI i) (h16 : μ 56 16 = nI i) (h17 : μ 56 17 = nI 0) : ∃ μ', am_ev (am_call (d + 7)) 1026 126 [.ref 56, .int x1, x2] [] μ = am_ret none μ' ∧ ps_o6 μ μ' ∧ μ' 56 15 = nI (if ps_eot tp tl i - i ≤ 4 then 2 else 1) ∧ μ' 56 16 = nI i ∧ μ' 56 14 = nI (ps_eot tp tl i) ∧ (ps_eot tp tl i - i ≤ 4 → μ' 56 17 = nI (ps_nv tp (ps_eot tp tl i - i) i 0)) := by
  have htl := hM.1
  have he := ps_eot_le (tp := tp) hi
  have lp : ∀ k j a (μ1 : am_Mem), j + k = tl → i ≤ j → j ≤ ps_eot tp tl i → ps_o6 μ μ1 → μ1 56 14 = nI j → μ1 56 16 = nI i → μ1 56 17 = nI a → (j ≤ i + 4 → ∀ n, ps_nv tp (n - i) i 0 = ps_nv tp (n - j) j a ∨ n < j) → ps_end' ps_isD tp k j = ps_eot tp tl i → ∃ μ', am_ev (am_call (d + 7)) 1026 126 [.ref 56, .int x1, x2] [] μ1 = am_ret none μ' ∧ ps_o6 μ μ' ∧ μ' 56 15 = nI (if ps_eot tp tl i - i ≤ 4 then 2 else 1) ∧ μ' 56 16 = nI i ∧ μ' 56 14 = nI (ps_eot tp tl i) ∧ (ps_eot tp tl i - i ≤ 4 → μ' 56 17 = nI (ps_nv tp (ps_eot tp tl i - i) i 0)) := by
    intro k
    have fin : ∀ j a (μ1 : am_Mem), j = ps_eot tp tl i → ps_o6 μ μ1 → μ1 56 14 = nI j → μ1 56 16 = nI i → μ1 56 17 = nI a → (j ≤ i + 4 → ∀ n, ps_nv tp (n - i) i 0 = ps_nv tp (n - j) j a ∨ n < j) → ps_isD' tp tl j = false → ∃ μ', am_ev (am_call (d + 7)) 1026 126 [.ref 56, .int x1, x2] [] μ1 = am_ret none μ' ∧ ps_o6 μ μ' ∧ μ' 56 15 = nI (if ps_eot tp tl i - i ≤ 4 then 2 else 1) ∧ μ' 56 16 = nI i ∧ μ' 56 14 = nI (ps_eot tp tl i) ∧ (ps_eot tp tl i - i ≤ 4 → μ' 56 17 = nI (ps_nv tp (ps_eot tp tl i - i) i 0)) := by
      intro j a μ1 hj o1 e14 e16 e17 hnv hno
      subst hj
      have hM1 := o1.M hM
      have vv : ps_eot tp tl i - i ≤ 4 → nI a = nI (ps_nv tp (ps_eot tp tl i - i) i 0) := fun hle => by
        rcases hnv (by omega) (ps_eot tp tl i) with z | z
        · rw [z, Nat.sub_self]; rfl
        · omega
      rw [q1026_126, e14, v1020 (d + 6) hM1 (by omega), am_bI_ret, v1022 (d + 5) hM1, am_bI_ret, hno, if_pos (by decide), q1026_189, e14, e16, pk_sub (by omega), q1026_207, q1026_208, q1026_208, q1026_306, q1026_306]
      by_cases h4 : ps_eot tp tl i - i ≤ 4
      · rw [if_neg (by rw [am_cN, am_leN (by omega) (by omega)]; omega), if_pos h4]
        exact ⟨_, rfl, o1.up (by omega) (by omega), am_upS _ _ _ _, by rw [am_upI (by omega)]; exact e16, by rw [am_upI (by omega)]; exact e14, fun hle => by rw [am_upI (by omega), e17]; exact vv hle⟩
      · rw [if_pos (by rw [am_cN, am_leN (by omega) (by omega)]; omega), if_neg h4]
        exact ⟨_, rfl, o1.up (by omega) (by omega), am_upS _ _ _ _, by rw [am_upI (by omega)]; exact e16, by rw [am_upI (by omega)]; exact e14, fun hle => absurd hle h4⟩
    induction k with
    | zero =>
      intro j a μ1 hj hij hje o1 e14 e16 e17 hnv hend
      have hend : j = ps_eot tp tl i := hend
      exact fin j a μ1 hend o1 e14 e16 e17 hnv (by rw [ps_isD', decide_eq_false (by omega)]; rfl)
    | succ k ih =>
      intro j a μ1 hj hij hje o1 e14 e16 e17 hnv hend
      rw [ps_end'] at hend
      cases hc : ps_isD (tp j) with
      | false =>
        rw [hc, if_neg (by decide)] at hend
        exact fin j a μ1 hend o1 e14 e16 e17 hnv (by rw [ps_isD', hc, Bool.and_false])
      | true =>
        rw [hc, if_pos rfl] at hend
        have hM1 := o1.M hM
        have hjn : j + 1 ≤ ps_eot tp tl i := by
          have := ps_end'_le (P := ps_isD) (tp := tp) k (j + 1)
          omega
        have hcd := hc
        rw [ps_isD, Bool.and_eq_true, decide_eq_true_eq, decide_eq_true_eq] at hcd
        have hse : ps_se tp tl j = nI (tp j) := by rw [ps_se, if_pos (by omega)]
        rw [q1026_126, e14, v1020 (d + 6) hM1 (by omega), am_bI_ret, v1022 (d + 5) hM1, am_bI_ret, ps_isD', hc, decide_eq_true (show j < tl by omega), if_neg (by decide), e16, e14, show am_c 4 = nI 4 from rfl, nI_add]
        by_cases h4 : j < i + 4
        · rw [if_neg (by rw [am_leN (by omega) (by omega)]; omega), v1020 (d + 6) hM1 (by omega), am_bI_ret, hse, e17, show am_c 10 = nI 10 from rfl, show am_c 48 = nI 48 from rfl, pk_mul, nI_add, pk_sub (by omega), q1026_176, am_upI (by omega), e14, am_cN, nI_add]
          refine ih (j + 1) (10 * a + tp j - 48) _ (by omega) (by omega) hjn ((o1.up (by omega) (by omega)).up (by omega) (by omega)) (am_upS _ _ _ _) (by rw [am_upI (by omega), am_upI (by omega)]; exact e16) (by rw [am_upI (by omega), am_upS]) (fun hle n => ?_) hend
          rcases Nat.lt_or_ge n (j + 1) with z | z
          · exact Or.inr z
          · rcases hnv (by omega) n with y | y
            · left
              rw [y]
              obtain ⟨e, he⟩ : ∃ e, n - j = e + 1 := ⟨n - j - 1, by omega⟩
              rw [he, ps_nv, show n - (j + 1) = e by omega, show a * 10 + (tp j - 48) = 10 * a + tp j - 48 by omega]
            · omega
        · rw [if_pos (by rw [am_leN (by omega) (by omega)]; omega), q1026_176, e14, am_cN, nI_add]
          exact ih (j + 1) a _ (by omega) (by omega) hjn (o1.up (by omega) (by omega)) (am_upS _ _ _ _) (by rw [am_upI (by omega)]; exact e16) (by rw [am_upI (by omega)]; exact e17) (fun hle => by omega) hend
  have e1 : ps_end' ps_isD tp (tl - i) i = ps_eot tp tl i := by
    obtain ⟨e, he⟩ : ∃ e, tl - i = e + 1 := ⟨tl - i - 1, by omega⟩
    rw [he, ps_end', if_pos hD, ps_eot, if_neg (by rw [ps_LD _ hD]; decide), if_pos hD, show tl - (i + 1) = e by omega]
  exact lp (tl - i) i 0 μ (by omega) (Nat.le_refl _) (by omega) (ps_o6.rf μ) h14 h16 h17 (fun _ n => Or.inl rfl) e1
theorem v1026 (d : Nat) : ∀ k p (x1 x2 : Value) (μ : am_Mem), ps_Mt tp tl μ → p + k = tl → μ 56 14 = nI p → ∃ μ', am_ev (am_call (d + 7)) 1026 0 [.ref 56, x1, x2] [] μ = am_ret none μ' ∧ ps_o6 μ μ' ∧ ps_Mn tp tl (ps_tks tp tl k p) μ' := by
  intro k
  induction k with
  | zero =>
    intro p x1 x2 μ hM hp h14
    have htl := hM.1
    have hp : p = tl := hp
    subst hp
    have hse : ps_se tp p p = am_c (-1) := by rw [ps_se, if_neg (by omega)]
    have hM2 : ps_Mt tp p (am_up μ 56 16 (nI p)) := ((ps_o6.rf μ).up (by omega) (by omega)).M hM
    rw [q1026_0, h14, v1020 (d + 6) hM (by omega), am_bI_ret, hse, if_neg (by decide), h14, v1020 (d + 6) hM (by omega), am_bI_ret, hse, if_neg (by decide), q1026_39, h14, am_upI (by omega), h14, v1020 (d + 6) hM2 (by omega), am_bI_ret, hse, if_pos rfl, q1026_306]
    exact ⟨_, rfl, ((ps_o6.rf μ).up (by omega) (by omega)).up (by omega) (by omega), by rw [am_upS]; rfl, by rw [am_upI (by omega), am_upS], fun e => absurd (show (0 : Nat) = 2 from e) (by decide), Or.inl rfl⟩
  | succ k ih =>
    intro p x1 x2 μ hM hp h14
    have htl := hM.1
    have hpl : p < tl := by omega
    have hn := (hM.2.2 p hpl).1
    have hse : ps_se tp tl p = nI (tp p) := by rw [ps_se, if_pos hpl]
    rw [q1026_0, h14, v1020 (d + 6) hM (by omega), am_bI_ret, hse, ps_tks, if_pos hpl]
    cases hB : ps_isB (tp p) with
    | true =>
      have hLD := ps_isB_LD hB
      have e1 : ps_eot tp tl p = p + 1 := by rw [ps_eot, hLD.1, if_neg (by decide), hLD.2, if_neg (by decide)]
      obtain ⟨μ', a1, a2, a3⟩ := ih (p + 1) x1 x2 (am_up μ 56 14 (nI (p + 1))) (((ps_o6.rf μ).up (by omega) (by omega)).M hM) (by omega) (am_upS _ _ _ _)
      rw [if_pos rfl, e1]
      refine ⟨μ', ?_, ((ps_o6.rf μ).up (by omega) (by omega)).tr a2, a3⟩
      rw [ps_isB, Bool.or_eq_true, decide_eq_true_eq, decide_eq_true_eq] at hB
      rw [q1026_26, h14, show nI p + am_c 1 = nI (p + 1) from nI_add p 1, v1020 (d + 6) hM (by omega), am_bI_ret, hse, q1026_26, h14, show nI p + am_c 1 = nI (p + 1) from nI_add p 1]
      by_cases h32 : tp p = 32
      · rw [if_pos (by rw [h32]; rfl)]; exact a1
      · rw [if_neg (by rw [am_cN, am_eqN (by omega) (by omega)]; exact h32), if_pos (by rw [am_cN, am_eqN (by omega) (by omega)]; omega)]; exact a1
    | false =>
      have h32 : ¬ tp p = 32 := fun e => by rw [e] at hB; exact absurd hB (by decide)
      have h10 : ¬ tp p = 10 := fun e => by rw [e] at hB; exact absurd hB (by decide)
      have hM2 : ps_Mt tp tl (am_up μ 56 16 (nI p)) := ((ps_o6.rf μ).up (by omega) (by omega)).M hM
      have he := ps_eot_le (tp := tp) hpl
      have R : ps_tks tp tl k (ps_eot tp tl p) = ps_tks tp tl (tl - ps_eot tp tl p) (ps_eot tp tl p) := ps_tks_fuel _ _ _ (by omega) (Nat.le_refl _)
      rw [if_neg (show ¬ (false = true) by decide), if_neg (show ¬ nI (tp p) = am_c 32 by rw [am_cN, am_eqN (by omega) (by omega)]; exact h32), h14, v1020 (d + 6) hM (by omega), am_bI_ret, hse, if_neg (show ¬ nI (tp p) = am_c 10 by rw [am_cN, am_eqN (by omega) (by omega)]; exact h10), q1026_39, h14, am_upI (by omega), h14, v1020 (d + 6) hM2 (by omega), am_bI_ret, hse, if_neg (nI_m1 (by omega)), q1026_69, ← hse, v1021 (d + 5) hM2, am_bI_ret]
      cases hL : ps_isL (tp p) with
      | true =>
        obtain ⟨μ', a1, a2, a3, a4, a5⟩ := v1026_w d hM2 hpl hL (ps_se tp tl p) x2 (by rw [am_upI (by omega)]; exact h14) (am_upS _ _ _ _)
        have hk : ps_kd tp p (ps_eot tp tl p) = ps_kwk (ps_seg tp p (ps_eot tp tl p - p)) := by
          rw [ps_kd, if_neg (fun z => by rw [ps_LD _ z] at hL; exact absurd hL (by decide)), if_pos hL]
        rw [ps_isL', hL, decide_eq_true hpl, if_neg (by decide), a1]
        refine ⟨μ', rfl, ((ps_o6.rf μ).up (by omega) (by omega)).tr a2, by rw [hk]; exact a3, a4, fun e => ?_, Or.inr ⟨_, he.2, a5, R⟩⟩
        exfalso
        have e : ps_kd tp p (ps_eot tp tl p) = 2 := e
        rw [hk, ps_kwk] at e
        have h2 : ∀ (seg : List Nat) (m x : Nat), ps_kwf seg m x ≠ 2 := by
          intro seg m
          induction m with
          | zero => intro x; rw [ps_kwf]; decide
          | succ m ihm => intro x; rw [ps_kwf]; split; omega; exact ihm _
        exact h2 _ _ _ e
      | false =>
        rw [ps_isL', hL, Bool.and_false, if_pos (by decide), q1026_114, v1022 (d + 5) hM2, am_bI_ret]
        cases hD : ps_isD (tp p) with
        | true =>
          obtain ⟨μ', a1, a2, a3, a4, a5, a6⟩ := v1026_d d (μ := am_up (am_up μ 56 16 (nI p)) 56 17 (am_c 0)) (((ps_o6.rf μ).up (by omega) (by omega)).up (by omega) (by omega) |>.M hM) hpl hD (ps_se tp tl p) x2 (by rw [am_upI (by omega), am_upI (by omega)]; exact h14) (by rw [am_upI (by omega), am_upS]) (by rw [am_upS]; rfl)
          have hk : ps_kd tp p (ps_eot tp tl p) = (if ps_eot tp tl p - p ≤ 4 then 2 else 1) := by rw [ps_kd, if_pos hD]
          rw [ps_isD', hD, decide_eq_true hpl, if_neg (by decide), a1]
          refine ⟨μ', rfl, (((ps_o6.rf μ).up (by omega) (by omega)).up (by omega) (by omega)).tr a2, ?_, a4, fun e => ?_, Or.inr ⟨_, he.2, a5, R⟩⟩
          · rw [a3, hk]
            split <;> rfl
          · have e : ps_kd tp p (ps_eot tp tl p) = 2 := e
            rw [hk] at e
            refine a6 ?_
            apply Classical.byContradiction
            intro hno
            rw [if_neg hno] at e
            omega
        | false =>
          have e1 : ps_eot tp tl p = p + 1 := by rw [ps_eot, hL, if_neg (by decide), hD, if_neg (by decide)]
          have hk : ps_kd tp p (ps_eot tp tl p) = ps_sgk (tp p) := by rw [ps_kd, hD, if_neg (by decide), hL, if_neg (by decide)]
          have hsm := ps_sgm (tp p) hn
          rw [ps_isD', hD, Bool.and_false, if_pos (by decide), q1026_214, am_upI (by omega), h14, show nI p + am_c 1 = nI (p + 1) from nI_add p 1, hse]
          generalize hμ2 : am_up (am_up μ 56 16 (nI p)) 56 14 (nI (p + 1)) = μ2
          have o2 : ps_o6 μ μ2 := by rw [← hμ2]; exact ((ps_o6.rf μ).up (by omega) (by omega)).up (by omega) (by omega)
          have fin : ∀ v : Nat, v = ps_mt (ps_sgk (tp p)) → ∃ μ', am_ret none (am_up μ2 56 15 (nI v)) = am_ret none μ' ∧ ps_o6 μ μ' ∧ ps_Mn tp tl ((ps_kd tp p (ps_eot tp tl p), p, ps_nv tp (ps_eot tp tl p - p) p 0) :: ps_tks tp tl k (ps_eot tp tl p)) μ' := by
            intro v hv
            refine ⟨_, rfl, o2.up (by omega) (by omega), by rw [am_upS, hk, hv], by rw [am_upI (by omega), ← hμ2, am_upI (by omega), am_upS], fun e => ?_, Or.inr ⟨_, he.2, by rw [am_upI (by omega), ← hμ2, am_upS, e1], R⟩⟩
            exfalso
            have e : ps_kd tp p (ps_eot tp tl p) = 2 := e
            rw [hk] at e
            unfold ps_sgk at e
            repeat' split at e
            all_goals omega
          have yes : am_ev (am_call (d + 7)) 1026 284 [.ref 56, .int (nI (tp p)), x2] [] μ2 = am_ret none (am_up μ2 56 15 (nI (100 + tp p))) := by
            rw [q1026_284, q1026_289, if_neg (by decide), show am_c 100 = nI 100 from rfl, nI_add, q1026_303, q1026_306]
          have no : am_ev (am_call (d + 7)) 1026 288 [.ref 56, .int (nI (tp p)), x2] [] μ2 = am_ret none (am_up μ2 56 15 (nI 1)) := by
            rw [q1026_288, q1026_289, if_pos (by decide), q1026_302, q1026_303, q1026_306]
            rfl
          rw [yes, no]
          have E : ∀ c, c < 256 → (nI (tp p) = nI c) = (tp p = c) := fun c hc => am_eqN (by omega) (by omega)
          simp (disch := omega) only [am_cN, E]
          by_cases hs : tp p = 59 ∨ tp p = 43 ∨ tp p = 45 ∨ tp p = 42 ∨ tp p = 47 ∨ tp p = 40 ∨ tp p = 41 ∨ tp p = 60 ∨ tp p = 61 ∨ tp p = 62
          · rw [if_pos hs] at hsm
            have := fin _ hsm
            rcases hs with h | h | h | h | h | h | h | h | h | h <;> simpa [h] using this
          · rw [if_neg hs] at hsm
            have := fin _ hsm
            simp only [not_or] at hs
            obtain ⟨s1, s2, s3, s4, s5, s6, s7, s8, s9, s10⟩ := hs
            rw [if_neg s1, if_neg s2, if_neg s3, if_neg s4, if_neg s5, if_neg s6, if_neg s7, if_neg s8, if_neg s9, if_neg s10]
            exact this
end TokM
