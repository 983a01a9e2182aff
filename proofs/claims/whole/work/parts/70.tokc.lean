/-! tokens, and the component's -/
def ps_end' (P : Nat → Bool) (tp : Nat → Nat) : Nat → Nat → Nat
  | 0, i => i
  | k + 1, i => if P (tp i) = true then ps_end' P tp k (i + 1) else i
theorem ps_end'_le {P : Nat → Bool} {tp : Nat → Nat} : ∀ (k i : Nat), i ≤ ps_end' P tp k i ∧ ps_end' P tp k i ≤ i + k
  | 0, i => ⟨Nat.le_refl _, Nat.le_refl _⟩
  | k + 1, i => by
    rw [ps_end']
    split
    · have := ps_end'_le (P := P) (tp := tp) k (i + 1)
      omega
    · omega
def ps_eot (tp : Nat → Nat) (tl i : Nat) : Nat := if ps_isL (tp i) = true then ps_end' ps_isL tp (tl - (i + 1)) (i + 1) else if ps_isD (tp i) = true then ps_end' ps_isD tp (tl - (i + 1)) (i + 1) else i + 1
theorem ps_eot_le {tp : Nat → Nat} {tl i : Nat} (hi : i < tl) : i + 1 ≤ ps_eot tp tl i ∧ ps_eot tp tl i ≤ tl := by
  unfold ps_eot
  have h1 := ps_end'_le (P := ps_isL) (tp := tp) (tl - (i + 1)) (i + 1)
  have h2 := ps_end'_le (P := ps_isD) (tp := tp) (tl - (i + 1)) (i + 1)
  split
  · omega
  · split <;> omega
def ps_kd (tp : Nat → Nat) (i to : Nat) : Nat := if ps_isD (tp i) = true then (if to - i ≤ 4 then 2 else 1) else if ps_isL (tp i) = true then ps_kwk (ps_seg tp i (to - i)) else ps_sgk (tp i)
def ps_nv (tp : Nat → Nat) : Nat → Nat → Nat → Nat
  | 0, _, a => a
  | k + 1, i, a => ps_nv tp k (i + 1) (a * 10 + (tp i - 48))
abbrev ps_K : Type := Nat × Nat × Nat
def ps_tks (tp : Nat → Nat) (tl : Nat) : Nat → Nat → List ps_K
  | 0, _ => [(0, tl, 0)]
  | k + 1, i => if i < tl then (if ps_isB (tp i) = true then ps_tks tp tl k (ps_eot tp tl i) else (ps_kd tp i (ps_eot tp tl i), i, ps_nv tp (ps_eot tp tl i - i) i 0) :: ps_tks tp tl k (ps_eot tp tl i)) else [(0, tl, 0)]
theorem ps_tks_fuel {tp : Nat → Nat} {tl : Nat} : ∀ (k k' i : Nat), tl - i ≤ k → tl - i ≤ k' → ps_tks tp tl k i = ps_tks tp tl k' i
  | 0, 0, i, _, _ => rfl
  | 0, k' + 1, i, h, _ => by rw [ps_tks, ps_tks, if_neg (by omega)]
  | k + 1, 0, i, _, h => by rw [ps_tks, ps_tks, if_neg (by omega)]
  | k + 1, k' + 1, i, h, h' => by
    rw [ps_tks, ps_tks]
    by_cases hi : i < tl
    · have he := ps_eot_le (tp := tp) hi
      rw [if_pos hi, if_pos hi, ps_tks_fuel k k' (ps_eot tp tl i) (by omega) (by omega)]
    · rw [if_neg hi, if_neg hi]
theorem ps_tks_len {tp : Nat → Nat} {tl : Nat} : ∀ (k i : Nat), (ps_tks tp tl k i).length ≤ tl - i + 1
  | 0, i => by rw [ps_tks]; exact Nat.succ_le_succ (Nat.zero_le _)
  | k + 1, i => by
    rw [ps_tks]
    by_cases hi : i < tl
    · have he := ps_eot_le (tp := tp) hi
      have ih := ps_tks_len (tp := tp) (tl := tl) k (ps_eot tp tl i)
      rw [if_pos hi]
      split
      · omega
      · rw [List.length_cons]; omega
    · rw [if_neg hi]; exact Nat.succ_le_succ (Nat.zero_le _)
/-- the tokens in the component's cells -/
def ps_Tk (T : List ps_K) (μ : am_Mem) : Prop := μ 27 3 = nI T.length ∧ ∀ (r : Nat) (q : ps_K), T[r]? = some q → μ 28 r = nI q.1 ∧ μ 29 r = nI q.2.1 ∧ (q.1 = 2 → μ 30 r = nI q.2.2)
section TokC
variable {tp : Nat → Nat} {tl : Nat} {μ : am_Mem}
theorem w603 (d : Nat) (htl : tl ≤ 400) (hb : ∀ k, k < tl → tp k < 256 ∧ μ 25 k = ps_by (tp k)) {i : Nat} (hi : i < tl) : am_call (d + 2) 603 [.ref 25, .int (nI i), .int (nI tl)] μ = am_ret (some (.int (nI (ps_eot tp tl i)))) μ := by
  obtain ⟨b1, b2⟩ := hb i hi
  have lpL : ∀ k j, j + k = tl → am_ev (am_call (d + 1)) 603 13 [.ref 25, .int (nI i), .int (nI tl), .int (nI j)] [] μ = am_ret (some (.int (nI (ps_end' ps_isL tp k j)))) μ := by
    intro k
    induction k with
    | zero => intro j hj; rw [q603_13, if_pos (by rw [am_leN (by omega) (by omega)]; omega), q603_62]; rfl
    | succ k ih =>
      intro j hj
      obtain ⟨c1, c2⟩ := hb j (by omega)
      rw [q603_13, if_neg (by rw [am_leN (by omega) (by omega)]; omega), am_ixN (by omega), am_gbI (by omega), c2, w608 d c1, am_bI_ret, q603_62, ps_end']
      cases hc : ps_isL (tp j) with
      | true => rw [if_neg (by decide), if_pos rfl, am_cN, nI_add]; exact ih (j + 1) (by omega)
      | false => rw [if_pos (by decide), if_neg (by decide)]
  have lpD : ∀ k j, j + k = tl → am_ev (am_call (d + 1)) 603 42 [.ref 25, .int (nI i), .int (nI tl), .int (nI j)] [] μ = am_ret (some (.int (nI (ps_end' ps_isD tp k j)))) μ := by
    intro k
    induction k with
    | zero => intro j hj; rw [q603_42, if_pos (by rw [am_leN (by omega) (by omega)]; omega), q603_62]; rfl
    | succ k ih =>
      intro j hj
      obtain ⟨c1, c2⟩ := hb j (by omega)
      rw [q603_42, if_neg (by rw [am_leN (by omega) (by omega)]; omega), am_ixN (by omega), am_gbI (by omega), c2, w609 d c1, am_bI_ret, q603_62, ps_end']
      cases hc : ps_isD (tp j) with
      | true => rw [if_neg (by decide), if_pos rfl, am_cN, nI_add]; exact ih (j + 1) (by omega)
      | false => rw [if_pos (by decide), if_neg (by decide)]
  rw [e603, q603_0, am_ixN (by omega), am_gbI (by omega), b2, w608 d b1, am_bI_ret, show am_c 1 = nI 1 from rfl, nI_add, ps_eot]
  cases hc : ps_isL (tp i) with
  | true => rw [if_neg (by decide), if_pos rfl]; exact lpL _ _ (by omega)
  | false =>
    rw [if_pos (by decide), if_neg (by decide), q603_33, am_ixN (by omega), am_gbI (by omega), b2, w609 d b1, am_bI_ret]
    cases hd : ps_isD (tp i) with
    | true => rw [if_neg (by decide), if_pos rfl]; exact lpD _ _ (by omega)
    | false => rw [if_pos (by decide), if_neg (by decide), q603_62]
theorem w611 (d : Nat) {n : Nat} (hn : n < 256) (μ : am_Mem) : am_call (d + 1) 611 [.int (ps_by n)] μ = am_ret (some (.int (nI (ps_sgk n)))) μ := by
  rw [e611, q611_0, q611_108, q611_111, q611_114, q611_117, q611_120, q611_123, q611_126, q611_129, q611_132, q611_135, q611_138]
  simp only [am_ret_ite]
  congr 3
  revert hn
  revert n
  decide +kernel
theorem w604 (d : Nat) (htl : tl ≤ 400) (hb : ∀ k, k < tl → tp k < 256 ∧ μ 25 k = ps_by (tp k)) {i to : Nat} (hi : i < to) (hto : to ≤ tl) : am_call (d + 6) 604 [.ref 25, .int (nI i), .int (nI to)] μ = am_ret (some (.int (nI (ps_kd tp i to)))) μ := by
  obtain ⟨b1, b2⟩ := hb i (by omega)
  rw [e604, q604_0, am_ixN (by omega), am_gbI (by omega), b2, w609 (d + 4) b1, am_bI_ret, ps_kd]
  cases hd : ps_isD (tp i) with
  | true =>
    rw [if_neg (by decide), if_pos rfl, pk_sub (by omega), q604_20, q604_21, q604_21]
    by_cases h4 : to - i ≤ 4
    · rw [if_neg (by rw [am_cN, am_ltN (by omega) (by omega)]; omega), if_pos h4]; rfl
    · rw [if_pos (by rw [am_cN, am_ltN (by omega) (by omega)]; omega), if_neg h4]; rfl
  | false =>
    rw [if_pos (by decide), if_neg (by decide), q604_22, am_ixN (by omega), am_gbI (by omega), b2, w608 (d + 4) b1, am_bI_ret]
    cases hl : ps_isL (tp i) with
    | false =>
      rw [if_pos (by decide), if_neg (by decide), am_gbI (by omega), b2, w611 (d + 4) b1, am_bI_ret]
    | true =>
      have lp : ∀ m x, x + m = 12 → am_ev (am_call (d + 5)) 604 40 [.ref 25, .int (nI i), .int (nI to), .int (nI (x + 3))] [] μ = am_ret (some (.int (nI (ps_kwf (ps_seg tp i (to - i)) m x)))) μ := by
        intro m
        induction m with
        | zero =>
          intro x hx
          have hx : x = 12 := hx
          subst hx
          rw [q604_40, if_pos (by decide), q604_67]
          rfl
        | succ m ih =>
          intro x hx
          rw [q604_40, if_neg (by rw [am_cN, am_ltN (by omega) (by omega)]; omega), w610 (d + 4) (by omega), am_bS_ret, w606 d (by omega) (by omega) hto htl hb, am_bI_ret, ps_kwf]
          by_cases he : ps_seg tp i (to - i) = ps_kwl.getD x []
          · rw [decide_eq_true he, if_neg (by decide), if_pos he]
          · rw [decide_eq_false he, if_pos (by decide), if_neg he, q604_61, am_cN, nI_add, show x + 3 + 1 = x + 1 + 3 by omega]
            exact ih (x + 1) (by omega)
      rw [if_neg (by decide), if_pos rfl, q604_38]
      exact lp 12 0 (by omega)
theorem w605 (d : Nat) (htl : tl ≤ 400) (hb : ∀ k, k < tl → tp k < 256 ∧ μ 25 k = ps_by (tp k)) {i to : Nat} (hto : to ≤ tl) (hit : i ≤ to) (hdg : ∀ k, i ≤ k → k < to → ps_isD (tp k) = true) : am_call (d + 1) 605 [.ref 25, .int (nI i), .int (nI to)] μ = am_ret (some (.int (nI (ps_nv tp (to - i) i 0)))) μ := by
  have lp : ∀ k j a, j + k = to → i ≤ j → am_ev (am_call d) 605 5 [.ref 25, .int (nI i), .int (nI to), .int (nI a), .int (nI j)] [] μ = am_ret (some (.int (nI (ps_nv tp k j a)))) μ := by
    intro k
    induction k with
    | zero => intro j a hj _; rw [q605_5, if_pos (by rw [am_leN (by omega) (by omega)]; omega), q605_30]; rfl
    | succ k ih =>
      intro j a hj hij
      obtain ⟨c1, c2⟩ := hb j (by omega)
      have hd := hdg j hij (by omega)
      rw [ps_isD, Bool.and_eq_true] at hd
      have h1 := of_decide_eq_true hd.1
      have h2 := of_decide_eq_true hd.2
      have e : ps_by (tp j) = nI (tp j) := by rw [ps_by_eq c1 (by omega)]
      rw [q605_5, if_neg (by rw [am_leN (by omega) (by omega)]; omega), am_ixN (by omega), am_gbI (by omega), c2, e, show am_c 10 = nI 10 from rfl, show am_c 48 = nI 48 from rfl, pk_mul, pk_sub h1, nI_add, am_cN, nI_add]
      exact ih (j + 1) _ (by omega) (by omega)
  rw [e605, q605_0]
  exact lp (to - i) i 0 (by omega) (Nat.le_refl _)
end TokC
theorem ps_end'_all {P : Nat → Bool} {tp : Nat → Nat} : ∀ (k i j : Nat), i ≤ j → j < ps_end' P tp k i → P (tp j) = true
  | 0, i, j, h1, h2 => by rw [ps_end'] at h2; omega
  | k + 1, i, j, h1, h2 => by
    rw [ps_end'] at h2
    by_cases hc : P (tp i) = true
    · rw [if_pos hc] at h2
      by_cases hij : j = i
      · rw [hij]; exact hc
      · exact ps_end'_all k (i + 1) j (by omega) h2
    · rw [if_neg hc] at h2
      omega
theorem ps_LD (n : Nat) (h : ps_isD n = true) : ps_isL n = false := by
  rw [ps_isD, Bool.and_eq_true, decide_eq_true_eq, decide_eq_true_eq] at h
  rw [ps_isL, decide_eq_false (show ¬ 97 ≤ n by omega), decide_eq_false (show ¬ 65 ≤ n by omega)]
  rfl
theorem ps_eot_dig {tp : Nat → Nat} {tl i : Nat} (hd : ps_isD (tp i) = true) : ∀ k, i ≤ k → k < ps_eot tp tl i → ps_isD (tp k) = true := fun k h1 h2 => by
  rw [ps_eot, if_neg (by rw [ps_LD _ hd]; decide), if_pos hd] at h2
  by_cases e : k = i
  · rw [e]; exact hd
  · exact ps_end'_all _ _ k (by omega) h2
theorem w601 (d : Nat) {tp : Nat → Nat} {tl : Nat} (htl : tl ≤ 400) : ∀ {μ : am_Mem}, (∀ k, k < tl → tp k < 256 ∧ μ 25 k = ps_by (tp k)) → ∃ μ', am_call (d + 7) 601 [.ref 27, .ref 25, .int (nI tl)] μ = am_ret none μ' ∧ ps_off [27, 28, 29, 30] μ μ' ∧ ps_Tk (ps_tks tp tl tl 0) μ' := by
  have add : ∀ (k p : Nat) (A : List ps_K) (μ1 : am_Mem), A.length < 401 → ps_Tk A μ1 → ∃ μ', am_call (d + 6) 602 [.ref 27, .int (nI k), .int (nI p)] μ1 = am_ret none μ' ∧ ps_off [27, 28, 29] μ1 μ' ∧ μ' 27 3 = nI (A.length + 1) ∧ μ' 28 A.length = nI k ∧ μ' 29 A.length = nI p ∧ ∀ (r : Nat) (q : ps_K), A[r]? = some q → μ' 28 r = nI q.1 ∧ μ' 29 r = nI q.2.1 := by
    intro k p A μ1 hA hT
    rw [e602, q602_0, hT.1, am_ixN (by omega), am_gbI hA, am_upK (by omega), hT.1, am_ixN (by omega), am_gbI hA, am_upK (by omega), am_upK (by omega), hT.1, am_cN, nI_add]
    refine ⟨_, rfl, ((ps_off.rf.up (by decide)).up (by decide)).up (by decide), am_upS _ _ _ _, by rw [am_upK (by omega), am_upK (by omega), am_upS], by rw [am_upK (by omega), am_upS], fun r q hq => ?_⟩
    have hr := (List.getElem?_eq_some_iff.mp hq).1
    obtain ⟨t1, t2, t3⟩ := hT.2 r q hq
    exact ⟨by rw [am_upK (by omega), am_upK (by omega), am_upI (by omega)]; exact t1, by rw [am_upK (by omega), am_upI (by omega), am_upK (by omega)]; exact t2⟩
  have apT : ∀ (A : List ps_K) (q : ps_K) (μ' : am_Mem), μ' 27 3 = nI (A.length + 1) → (∀ (r : Nat) (x : ps_K), A[r]? = some x → μ' 28 r = nI x.1 ∧ μ' 29 r = nI x.2.1 ∧ (x.1 = 2 → μ' 30 r = nI x.2.2)) → μ' 28 A.length = nI q.1 → μ' 29 A.length = nI q.2.1 → (q.1 = 2 → μ' 30 A.length = nI q.2.2) → ps_Tk (A ++ [q]) μ' := by
    intro A q μ' h1 h2 h3 h4 h5
    refine ⟨by rw [List.length_append]; exact h1, fun r x hx => ?_⟩
    rw [List.getElem?_append] at hx
    by_cases hr : r < A.length
    · rw [if_pos hr] at hx
      exact h2 r x hx
    · rw [if_neg hr] at hx
      have h0 := (List.getElem?_eq_some_iff.mp hx).1
      rw [List.length_singleton] at h0
      have e0 : r = A.length := by omega
      subst e0
      rw [Nat.sub_self] at hx
      have hq : q = x := by simpa using hx
      subst hq
      exact ⟨h3, h4, h5⟩
  have lp : ∀ k i it (x5 : Value) (A : List ps_K) (μ : am_Mem), (∀ k, k < tl → tp k < 256 ∧ μ 25 k = ps_by (tp k)) → tl - i ≤ k → i ≤ tl → it ≤ i → ps_Tk A μ → A.length ≤ i → ∃ μ', am_ev (am_call (d + 6)) 601 10 [.ref 27, .ref 25, .int (nI tl), .int (nI i), .int (nI it), x5] [] μ = am_ret none μ' ∧ ps_off [27, 28, 29, 30] μ μ' ∧ ps_Tk (A ++ ps_tks tp tl k i) μ' := by
    intro k
    induction k with
    | zero =>
      intro i it x5 A μ hb hk hi hit hT hA
      obtain ⟨μ', a1, a2, a3, a4, a5, a6⟩ := add 0 tl A μ (by omega) hT
      have fin : am_ev (am_call (d + 6)) 601 90 [.ref 27, .ref 25, .int (nI tl), .int (nI i), .int (nI it), x5] [] μ = am_ret none μ' := by rw [q601_90, show am_c 0 = nI 0 from rfl, a1, am_bV_ret]
      refine ⟨μ', ?_, a2.mono (by simp), apT A (0, tl, 0) μ' a3 (fun r x hx => ⟨(a6 r x hx).1, (a6 r x hx).2, fun e => by rw [a2 30 (by decide)]; exact (hT.2 r x hx).2.2 e⟩) a4 a5 (fun e => absurd (show (0 : Nat) = 2 from e) (by decide))⟩
      rw [q601_10, fin, if_pos (show nI tl ≤ nI i by rw [am_leN (by omega) (by omega)]; omega)]
      split <;> rfl
    | succ k ih =>
      intro i it x5 A μ hb hk hi hit hT hA
      by_cases hil : i < tl
      · obtain ⟨b1, b2⟩ := hb i hil
        have he := ps_eot_le (tp := tp) hil
        rw [q601_10, if_neg (by rw [am_leN (by omega) (by omega)]; omega), if_neg (by rw [am_leN (by omega) (by omega)]; omega), w603 (d + 4) htl hb hil, am_bI_ret, am_ixN (by omega), am_gbI (by omega), b2, w607 (d + 5) b1, am_bI_ret, ps_tks, if_pos hil]
        cases hB : ps_isB (tp i) with
        | true =>
          rw [if_neg (by decide), if_pos rfl, q601_81, am_cN, nI_add]
          exact ih _ (it + 1) _ A μ hb (by omega) he.2 (by omega) hT (by omega)
        | false =>
          rw [if_pos (by decide), if_neg (by decide), w604 d htl hb (by omega) he.2, am_bI_ret]
          obtain ⟨μ1, a1, a2, a3, a4, a5, a6⟩ := add (ps_kd tp i (ps_eot tp tl i)) i A μ (by omega) hT
          have hb1 : ∀ k, k < tl → tp k < 256 ∧ μ1 25 k = ps_by (tp k) := fun k hk => by rw [a2 25 (by decide)]; exact hb k hk
          rw [a1, am_bV_ret, am_gbI (by omega), (hb1 i hil).2, w609 (d + 5) b1, am_bI_ret, a3, show am_c 1 = nI 1 from rfl, pk_sub (by omega), Nat.add_sub_cancel]
          have nx : ∀ v : Nat, (ps_kd tp i (ps_eot tp tl i) = 2 → v = ps_nv tp (ps_eot tp tl i - i) i 0) → ∃ μ', am_ev (am_call (d + 6)) 601 80 [.ref 27, .ref 25, .int (nI tl), .int (nI i), .int (nI it), .int (nI (ps_eot tp tl i))] [.int (nI v), .int (nI A.length), .ref 30] μ1 = am_ret none μ' ∧ ps_off [27, 28, 29, 30] μ μ' ∧ ps_Tk (A ++ ((ps_kd tp i (ps_eot tp tl i), i, ps_nv tp (ps_eot tp tl i - i) i 0) :: ps_tks tp tl k (ps_eot tp tl i))) μ' := by
            intro v hv
            have o2 : ps_off [27, 28, 29, 30] μ (am_up μ1 30 A.length (nI v)) := (a2.mono (by simp)).up (by decide)
            have hT2 : ps_Tk (A ++ [(ps_kd tp i (ps_eot tp tl i), i, ps_nv tp (ps_eot tp tl i - i) i 0)]) (am_up μ1 30 A.length (nI v)) := by
              refine apT A _ _ (by rw [am_upK (by omega)]; exact a3) (fun r x hx => ?_) (by rw [am_upK (by omega)]; exact a4) (by rw [am_upK (by omega)]; exact a5) (fun e => by rw [am_upS, hv e])
              have hr := (List.getElem?_eq_some_iff.mp hx).1
              rw [am_upK (by omega), am_upK (by omega), am_upI (by omega), a2 30 (by decide)]
              exact ⟨(a6 r x hx).1, (a6 r x hx).2, (hT.2 r x hx).2.2⟩
            obtain ⟨μ', e1, e2, e3⟩ := ih (ps_eot tp tl i) (it + 1) (.int (nI (ps_eot tp tl i))) (A ++ [(ps_kd tp i (ps_eot tp tl i), i, ps_nv tp (ps_eot tp tl i - i) i 0)]) (am_up μ1 30 A.length (nI v)) (fun k hk => by rw [o2 25 (by decide)]; exact hb k hk) (by omega) he.2 (by omega) hT2 (by rw [List.length_append, List.length_singleton]; omega)
            rw [q601_80, am_ixN (by omega), am_gbI (by omega), q601_81, am_cN, nI_add, e1]
            refine ⟨μ', rfl, o2.tr e2, ?_⟩
            rw [List.append_assoc] at e3
            exact e3
          cases hD : ps_isD (tp i) with
          | true =>
            rw [if_neg (by decide), w605 (d + 5) htl hb1 he.2 (by omega) (ps_eot_dig hD), am_bI_ret]
            exact nx _ (fun _ => rfl)
          | false =>
            rw [if_pos (by decide), q601_79, show am_c 0 = nI 0 from rfl]
            refine nx 0 (fun e => ?_)
            exfalso
            rw [ps_kd, hD, if_neg (by decide)] at e
            cases hL : ps_isL (tp i) with
            | true =>
              rw [hL, if_pos rfl] at e
              have h2 : ∀ (seg : List Nat) (m x : Nat), ps_kwf seg m x ≠ 2 := by
                intro seg m
                induction m with
                | zero => intro x; rw [ps_kwf]; decide
                | succ m ihm => intro x; rw [ps_kwf]; split; omega; exact ihm _
              exact h2 _ _ _ e
            | false =>
              rw [hL, if_neg (by decide)] at e
              unfold ps_sgk at e
              repeat' split at e
              all_goals omega
      · have hie : i = tl := by omega
        obtain ⟨μ', a1, a2, a3, a4, a5, a6⟩ := add 0 tl A μ (by omega) hT
        have fin : am_ev (am_call (d + 6)) 601 90 [.ref 27, .ref 25, .int (nI tl), .int (nI i), .int (nI it), x5] [] μ = am_ret none μ' := by rw [q601_90, show am_c 0 = nI 0 from rfl, a1, am_bV_ret]
        rw [ps_tks, if_neg hil]
        refine ⟨μ', ?_, a2.mono (by simp), apT A (0, tl, 0) μ' a3 (fun r x hx => ⟨(a6 r x hx).1, (a6 r x hx).2, fun e => by rw [a2 30 (by decide)]; exact (hT.2 r x hx).2.2 e⟩) a4 a5 (fun e => absurd (show (0 : Nat) = 2 from e) (by decide))⟩
        rw [q601_10, fin, if_pos (show nI tl ≤ nI i by rw [am_leN (by omega) (by omega)]; omega)]
        split <;> rfl
  intro μ hb
  rw [e601, q601_0]
  obtain ⟨μ', a1, a2, a3⟩ := lp tl 0 0 .null [] (am_up μ 27 3 (am_c 0)) (fun k hk => by rw [am_upK (by omega)]; exact hb k hk) (by omega) (Nat.zero_le _) (Nat.le_refl _) ⟨by rw [am_upS]; rfl, fun r q hq => by simp at hq⟩ (Nat.le_refl _)
  exact ⟨μ', a1, (ps_off.rf.up (by decide)).tr a2, a3⟩
