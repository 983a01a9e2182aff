variable {bG : Nat}
/-! worn -/
theorem am_rngC {α : Type} (x : Int32) {n : Nat} (hn : n < 2147483648) (A B : α) : (if x < 0 then A else if x < nI n then B else A) = if am_ix x < n then B else A := by
  rcases am_any x n (by omega) with ⟨a, h1, rfl⟩ | h
  · rw [am_ixN (by omega), if_pos h1, if_neg (nI_pos (by omega)), if_pos (by rw [am_ltN (by omega) (by omega)]; omega)]
  · rw [show (if am_ix x < n then B else A) = A from if_neg (by omega)]
    rcases am_out h hn with h1 | h1
    · rw [if_pos h1]
    · rw [if_neg (Int32.not_lt.mpr h1)]
      split <;> rfl
theorem ps_cnt_ge {p : Nat → Bool} {e : Nat} : ∀ {n : Nat}, e < n → (p e).toNat ≤ ps_cnt p n
  | 0, h => by omega
  | n + 1, h => by
    rw [ps_cnt]
    by_cases he : e = n
    · subst he; omega
    · have := ps_cnt_ge (p := p) (e := e) (n := n) (by omega)
      omega
def ps_ot (S : ps_S) (e i : Nat) : Nat := ps_dif (ps_us S e) (2 ^ S.us e i)
def ps_el (S : ps_S) (k e : Nat) : Nat := ps_ua S k S.n - ((ps_us S e).testBit k).toNat
def ps_wn (S : ps_S) (e i k : Nat) : Bool := !(ps_ot S e i ||| 2 ^ S.hd e).testBit k && (decide (ps_el S k e < S.lim) && ps_fx S (S.hd e) (ps_ot S e i ||| 2 ^ k))
def ps_worn (O : ps_O) (x y : Int32) : Int32 := if am_ix x < O.S.n ∧ am_ix y < O.S.ct (am_ix x) then nI (ps_sel (ps_wn O.S (am_ix x) (am_ix y)) O.S.w) else am_c (-1)
section Ops20
variable {S : ps_S} {μ : am_Mem}
theorem ps_el_ge {k e : Nat} (he : e < S.n) : ((ps_us S e).testBit k).toNat ≤ ps_ua S k S.n := ps_cnt_ge (p := fun d => (ps_us S d).testBit k) he
theorem ps_ot_lt (hW : ps_Wf S) {e : Nat} (he : e < S.n) (i : Nat) : ps_ot S e i < 2 ^ S.w ∧ ps_ot S e i < 65536 := by
  obtain ⟨g1, g2, g3, g4, g5, g6, g7, g8, g9⟩ := hW.e he
  have h2 : 2 ^ S.w ≤ 2 ^ 16 := Nat.pow_le_pow_right (by omega) g2
  have h1 : ps_ot S e i < 2 ^ S.w := ps_dif_lt g8
  exact ⟨h1, by omega⟩
theorem w721 (d : Nat) (hR : ps_Rc 1 S μ) (hW : ps_Wf S) {k e : Nat} (hk : k < 16) (he : e < S.n) : am_call (d + 4) 721 [.ref 1, .int (nI k), .int (nI e)] μ = am_ret (some (.int (nI (ps_el S k e)))) μ := by
  have r8 : μ 1 7 = nI S.n := hR.2.2.2.2.2.2.2.1
  have hg := ps_el_ge (k := k) he
  rw [e721, q721_0, r8, w713 d hR hW (by omega) (Nat.le_refl _), am_bI_ret, w712 (d + 1) hR hW he (by omega), am_bI_ret, q721_25, q721_26, q721_26, ps_el]
  cases hb : (ps_us S e).testBit k with
  | true =>
    rw [hb] at hg
    have hg : 1 ≤ ps_ua S k S.n := hg
    rw [if_neg (by decide), am_cN, pk_sub hg]
    rfl
  | false => rw [if_pos (by decide)]; rfl
theorem w720_39 (d : Nat) (hW : ps_Wf S) (hl : ps_Lw S.law) {e i : Nat} (he : e < S.n) : ∀ j k (μ : am_Mem) (x7 : Value), ps_Rc 1 S μ → ps_Lc 7 S.law μ → k + j = S.w → ∃ μ', am_ev (am_call (d + 4)) 720 39 [.ref 1, .int (nI e), .int (nI i), .int (nI (ps_ot S e i)), .int (nI (ps_ot S e i ||| 2 ^ S.hd e)), .int (nI (ps_sel (ps_wn S e i) k)), .int (nI k), x7] [] μ = am_ret (some (.int (nI (ps_sel (ps_wn S e i) S.w)))) μ' ∧ ps_scC μ μ' := by
  obtain ⟨g1, g2, g3, g4, g5, g6, g7, g8, g9⟩ := hW.e he
  obtain ⟨o1, o2⟩ := ps_ot_lt hW he i
  have hlim : 1 ≤ S.lim ∧ S.lim ≤ 3 := hW.2.2.2.1
  have h2 : 2 ^ S.hd e < 2 ^ 16 := Nat.pow_lt_pow_right (by omega) (by omega)
  have hb : ps_ot S e i ||| 2 ^ S.hd e < 2 ^ 16 := Nat.or_lt_two_pow o2 h2
  intro j
  induction j with
  | zero =>
    intro k μ x7 hR hL hk
    have hk : k = S.w := hk
    subst hk
    have r1 : μ 1 4 = nI S.w := hR.1
    rw [q720_39, r1, if_pos (by rw [am_leN (by omega) (by omega)]; omega), q720_118]
    exact ⟨μ, rfl, ps_scC.rf μ⟩
  | succ j ih =>
    intro k μ x7 hR hL hk
    have r1 : μ 1 4 = nI S.w := hR.1
    have r4 : μ 1 1 = nI S.lim := hR.2.2.2.1
    have hua : ps_ua S k S.n ≤ S.n := ps_cnt_le (fun d => (ps_us S d).testBit k) S.n
    have hel : ps_el S k e ≤ 12 := by unfold ps_el; omega
    have hset : ps_ot S e i ||| 2 ^ k < 2 ^ S.w := Nat.or_lt_two_pow o1 (Nat.pow_lt_pow_right (by omega) (by omega))
    have nx : ∀ (μ1 : am_Mem) (b : Bool) (v : Int32) (s : Nat), ps_scC μ μ1 → ps_wn S e i k = b → s = (ps_sel (ps_wn S e i) k ||| if b = true then 2 ^ k else 0) → ∃ μ', am_ev (am_call (d + 4)) 720 112 [.ref 1, .int (nI e), .int (nI i), .int (nI (ps_ot S e i)), .int (nI (ps_ot S e i ||| 2 ^ S.hd e)), .int (nI s), .int (nI k), .int v] [] μ1 = am_ret (some (.int (nI (ps_sel (ps_wn S e i) S.w)))) μ' ∧ ps_scC μ μ' := by
      intro μ1 b v s h1 hb hs
      rw [q720_112, am_cN, nI_add, hs, ← hb]
      obtain ⟨μ', a1, a2⟩ := ih (k + 1) μ1 (.int v) (h1.R hR) (h1.L hL) (by omega)
      exact ⟨μ', a1, h1.tr a2⟩
    rw [q720_39, r1, if_neg (by rw [am_leN (by omega) (by omega)]; omega), show am_c 1 = nI 1 from rfl, am_bit (by omega) (by omega)]
    cases c1 : (ps_ot S e i ||| 2 ^ S.hd e).testBit k with
    | true =>
      rw [if_neg (by decide), q720_76, q720_77, if_pos (by decide)]
      exact nx μ false _ _ (ps_scC.rf μ) (by rw [ps_wn, c1]; rfl) (by simp)
    | false =>
      rw [if_pos (by decide), w721 d hR hW (by omega) he, am_bI_ret, r4]
      by_cases c2 : ps_el S k e < S.lim
      · rw [if_neg (by rw [am_leN (by omega) (by omega)]; omega), q720_77, if_neg (by decide), am_ixN (by omega), am_gbI (by omega), show μ 3 e = nI (S.hd e) from hR.2.2.2.2.2.2.2.2.1 e he, show am_c 1 = nI 1 from rfl, am_shl1 (by omega), am_or, am_or]
        obtain ⟨μ1, a1, a2⟩ := w718 (d + 1) hR hL hW hl g4 hset
        have s1 : ps_scC μ μ1 := ps_scC.of a2 rfl
        rw [a1, am_bI_ret]
        cases c3 : ps_fx S (S.hd e) (ps_ot S e i ||| 2 ^ k) with
        | true =>
          rw [if_neg (by decide)]
          exact nx μ1 true _ _ s1 (by rw [ps_wn, c1, c3, decide_eq_true c2]; rfl) (by simp)
        | false =>
          rw [if_pos (by decide)]
          exact nx μ1 false _ _ s1 (by rw [ps_wn, c1, c3, decide_eq_true c2]; rfl) (by simp)
      · rw [if_pos (by rw [am_leN (by omega) (by omega)]; omega), q720_76, q720_77, if_pos (by decide)]
        exact nx μ false _ _ (ps_scC.rf μ) (by rw [ps_wn, c1, decide_eq_false c2]; rfl) (by simp)
theorem C_worn (d : Nat) (O : ps_O) (hO : ps_Ow O) (x y : Int32) : ps_sC bG (d + 6) 922 [.ref 0, .int x, .int y] O (some (.int (ps_worn O x y))) O := by
  intro μ h
  have hR := h.1
  have hW := hO.1
  have r8 : μ 1 7 = nI O.S.n := hR.2.2.2.2.2.2.2.1
  have w7 : O.S.n ≤ 12 := hW.2.2.2.2.2.2.1
  rw [e922, q922_0, c703 (d + 4) r8 (by omega), am_bI_ret, q922_28, ps_worn]
  by_cases hx : am_ix x < O.S.n
  · obtain ⟨g1, g2, g3, g4, g5, g6, g7, g8, g9⟩ := hW.e hx
    obtain ⟨e, he, rfl⟩ : ∃ a, a < O.S.n ∧ x = nI a := ⟨am_ix x, hx, (am_nIx x).symm⟩
    have er := am_rngC y (n := O.S.ct e) (by rw [am_ixN (by omega)] at g6; omega) (am_ret (some (.int (am_c (-1)))) μ) (am_ev (am_call (d + 5)) 922 30 [.ref 0, .int (nI e), .int y] [] μ)
    rw [am_ixN (by omega)] at g3 g4 g5 g6 g7 g8 g9 ⊢
    rw [decide_eq_true he, if_neg (by decide), am_gbI g3, show μ 4 e = nI (O.S.ct e) from hR.2.2.2.2.2.2.2.2.2.1 e he, er]
    by_cases hy : am_ix y < O.S.ct e
    · rw [if_pos hy, if_pos ⟨he, hy⟩, q922_30]
      obtain ⟨i, hi, rfl⟩ : ∃ a, a < O.S.ct e ∧ y = nI a := ⟨am_ix y, hy, (am_nIx y).symm⟩
      have hu : μ 5 (e * 3 + i) = nI (O.S.us e i) := hR.2.2.2.2.2.2.2.2.2.2.1 e i he hi
      have hu16 := g7 i hi
      rw [am_ixN (by omega), e720, q720_0, w711 (d + 3) hR hW he, am_bI_ret, show am_c 3 = nI 3 from rfl, pk_mul, nI_add, am_ixN (by omega), am_gbI (by omega), am_ixN (by omega), am_gbI (by omega), hu, show μ 3 e = nI (O.S.hd e) from hR.2.2.2.2.2.2.2.2.1 e he, show am_c 1 = nI 1 from rfl, am_shl1 (by omega), am_shl1 (by omega), am_andn, am_or]
      obtain ⟨μ', a1, a2⟩ := w720_39 d hW hO.2.1 (i := i) he O.S.w 0 μ .null hR h.2.1 (by omega)
      refine ⟨μ', ?_, a2.I h, a2.k⟩
      rw [show am_ev (am_call (d + 4)) 720 39 [.ref 1, .int (nI e), .int (nI i), .int (nI (ps_dif (ps_us O.S e) (2 ^ O.S.us e i))), .int (nI (ps_dif (ps_us O.S e) (2 ^ O.S.us e i) ||| 2 ^ O.S.hd e)), .int (am_c 0), .int (am_c 0), .null] [] μ = _ from a1, am_bI_ret]
    · rw [if_neg hy, if_neg (fun z => hy z.2)]
      exact ⟨μ, rfl, h, ps_kC.rf⟩
  · rw [decide_eq_false hx, if_pos (by decide), if_neg (fun z => hx z.1)]
    exact ⟨μ, rfl, h, ps_kC.rf⟩
theorem v1073_51 (d : Nat) (hW : ps_Wf S) (hl : ps_Lw S.law) {e i : Nat} (he : e < S.n) : ∀ j k (μ : am_Mem) (x6 : Value), ps_Rm 57 S μ → ps_Lm 57 S.law μ → k + j = S.w → ∃ μ', am_ev (am_call (d + 3)) 1073 51 [.ref 56, .int (nI e), .int (nI i), .int (nI (ps_ot S e i)), .int (nI (ps_sel (ps_wn S e i) k)), .int (nI k), x6] [] μ = am_ret (some (.int (nI (ps_sel (ps_wn S e i) S.w)))) μ' ∧ ps_scM μ μ' := by
  obtain ⟨g1, g2, g3, g4, g5, g6, g7, g8, g9⟩ := hW.e he
  obtain ⟨o1, o2⟩ := ps_ot_lt hW he i
  have hlim : 1 ≤ S.lim ∧ S.lim ≤ 3 := hW.2.2.2.1
  intro j
  induction j with
  | zero =>
    intro k μ x6 hR hL hk
    have hk : k = S.w := hk
    subst hk
    have r1 : μ 57 0 = nI S.w := hR.1
    rw [q1073_51, r1, if_pos (by rw [am_leN (by omega) (by omega)]; omega), q1073_162]
    exact ⟨μ, rfl, ps_scM.rf μ⟩
  | succ j ih =>
    intro k μ x6 hR hL hk
    have r1 : μ 57 0 = nI S.w := hR.1
    have r4 : μ 57 2 = nI S.lim := hR.2.2.2.1
    have r8 : μ 57 1 = nI S.n := hR.2.2.2.2.2.2.2.1
    have r9 : μ 57 (45 + 5 * e + 0) = nI (S.hd e) := hR.2.2.2.2.2.2.2.2.1 e he
    have hua : ps_ua S k S.n ≤ S.n := ps_cnt_le (fun d => (ps_us S d).testBit k) S.n
    have hg := ps_el_ge (k := k) he
    have hel : ps_el S k e ≤ 12 := by unfold ps_el; omega
    have hset : ps_ot S e i ||| 2 ^ k < 2 ^ S.w := Nat.or_lt_two_pow o1 (Nat.pow_lt_pow_right (by omega) (by omega))
    have nx : ∀ (μ1 : am_Mem) (b : Bool) (v : Value) (s : Nat), ps_scM μ μ1 → ps_wn S e i k = b → s = (ps_sel (ps_wn S e i) k ||| if b = true then 2 ^ k else 0) → ∃ μ', am_ev (am_call (d + 3)) 1073 156 [.ref 56, .int (nI e), .int (nI i), .int (nI (ps_ot S e i)), .int (nI s), .int (nI k), v] [] μ1 = am_ret (some (.int (nI (ps_sel (ps_wn S e i) S.w)))) μ' ∧ ps_scM μ μ' := by
      intro μ1 b v s h1 hb hs
      rw [q1073_156, am_cN, nI_add, hs, ← hb]
      obtain ⟨μ', a1, a2⟩ := ih (k + 1) μ1 v (h1.R hR) (h1.L hL) (by omega)
      exact ⟨μ', a1, h1.tr a2⟩
    rw [q1073_51, r1, if_neg (by rw [am_leN (by omega) (by omega)]; omega), show am_c 0 = nI 0 from rfl, show am_c 1 = nI 1 from rfl, m1005 (d + 2) (by omega), am_bI_ret, r9, am_bit (by omega) (by omega)]
    by_cases c0 : k = S.hd e
    · rw [if_pos (by rw [c0])]
      exact nx μ false _ _ (ps_scM.rf μ) (by rw [ps_wn, Nat.testBit_or, Nat.testBit_two_pow, decide_eq_true c0.symm, Bool.or_true]; rfl) (by simp)
    rw [if_neg (by rw [am_eqN (by omega) (by omega)]; exact c0)]
    have ebar : (ps_ot S e i ||| 2 ^ S.hd e).testBit k = (ps_ot S e i).testBit k := by rw [Nat.testBit_or, Nat.testBit_two_pow, decide_eq_false (fun z => c0 z.symm), Bool.or_false]
    cases c1 : (ps_ot S e i).testBit k with
    | true =>
      rw [if_pos (by decide)]
      exact nx μ false _ _ (ps_scM.rf μ) (by rw [ps_wn, ebar, c1]; rfl) (by simp)
    | false =>
      rw [if_neg (by decide), q1073_86, r8, v1046 d hR hW (by omega) (Nat.le_refl _), am_bI_ret, v1044 (d + 1) hR hW he, am_bI_ret, show am_c 1 = nI 1 from rfl, show am_c 0 = nI 0 from rfl, am_bit (by omega) (by omega), pk_sub hg, show ps_ua S k S.n - ((ps_us S e).testBit k).toNat = ps_el S k e from rfl, nI_add, r4, am_shl1 (by omega), am_or]
      by_cases c2 : ps_el S k e < S.lim
      · rw [if_neg (by rw [am_ltN (by omega) (by omega)]; omega), m1005 (d + 2) (by omega), am_bI_ret, r9]
        obtain ⟨μ1, a1, a2⟩ := v1043 d hR hL hW hl g4 hset
        have s1 : ps_scM μ μ1 := ps_scM.of a2 rfl
        rw [a1, am_bI_ret, q1073_152, q1073_153, q1073_153]
        cases c3 : ps_fx S (S.hd e) (ps_ot S e i ||| 2 ^ k) with
        | true =>
          rw [if_neg (by decide), am_or]
          exact nx μ1 true _ _ s1 (by rw [ps_wn, ebar, c1, c3, decide_eq_true c2]; rfl) (by simp)
        | false =>
          rw [if_pos (by decide), show am_c 0 = nI 0 from rfl, am_or]
          exact nx μ1 false _ _ s1 (by rw [ps_wn, ebar, c1, c3, decide_eq_true c2]; rfl) (by simp)
      · rw [if_pos (by rw [am_ltN (by omega) (by omega)]; omega), q1073_152, q1073_153, show am_c 0 = nI 0 from rfl, am_or]
        exact nx μ false _ _ (ps_scM.rf μ) (by rw [ps_wn, ebar, c1, decide_eq_false c2]; rfl) (by simp)
theorem M_worn (d : Nat) (O : ps_O) (hO : ps_Ow O) (x y : Int32) : ps_sM (d + 4) 1073 [.ref 56, .int x, .int y] O (some (.int (ps_worn O x y))) O := by
  intro μ h
  have hR := h.1
  have hW := hO.1
  have r8 : μ 57 1 = nI O.S.n := hR.2.2.2.2.2.2.2.1
  have w7 : O.S.n ≤ 12 := hW.2.2.2.2.2.2.1
  rw [e1073, q1073_0, m1003 (d + 1) r8 (by omega), am_bI_ret, ps_worn]
  by_cases hx : am_ix x < O.S.n
  · obtain ⟨g1, g2, g3, g4, g5, g6, g7, g8, g9⟩ := hW.e hx
    obtain ⟨e, he, rfl⟩ : ∃ a, a < O.S.n ∧ x = nI a := ⟨am_ix x, hx, (am_nIx x).symm⟩
    rw [am_ixN (by omega)] at g3 g4 g5 g6 g7 g8 g9 ⊢
    have r10 : μ 57 (45 + 5 * e + 1) = nI (O.S.ct e) := by rw [show 45 + 5 * e + 1 = 46 + 5 * e by omega]; exact hR.2.2.2.2.2.2.2.2.2.1 e he
    rw [decide_eq_true he, if_neg (by decide), show am_c 1 = nI 1 from rfl, show am_c 0 = nI 0 from rfl, m1005 (d + 2) (by omega), am_bI_ret, r10, m1001n (d + 2) y (by omega), am_bI_ret]
    by_cases hy : am_ix y < O.S.ct e
    · rw [decide_eq_true hy, if_neg (by decide), if_pos ⟨he, hy⟩, q1073_26]
      obtain ⟨i, hi, rfl⟩ : ∃ a, a < O.S.ct e ∧ y = nI a := ⟨am_ix y, hy, (am_nIx y).symm⟩
      have hu : μ 57 (45 + 5 * e + (2 + i)) = nI (O.S.us e i) := by rw [show 45 + 5 * e + (2 + i) = 47 + 5 * e + i by omega]; exact hR.2.2.2.2.2.2.2.2.2.2.1 e i he hi
      have hu16 := g7 i hi
      rw [am_ixN (by omega), v1044 (d + 1) hR hW he, am_bI_ret, show am_c 2 = nI 2 from rfl, nI_add, m1005 (d + 2) (by omega), am_bI_ret, hu, show am_c 1 = nI 1 from rfl, am_shl1 (by omega), am_andn]
      obtain ⟨μ', a1, a2⟩ := v1073_51 d hW hO.2.1 (i := i) he O.S.w 0 μ .null hR h.2.1 (by omega)
      exact ⟨μ', a1, a2.I h, a2.k⟩
    · rw [decide_eq_false hy, if_pos (by decide), if_neg (fun z => hy z.2), q1073_24]
      exact ⟨μ, rfl, h, ps_kM.rf⟩
  · rw [decide_eq_false hx, if_pos (by decide), if_neg (fun z => hx z.1), q1073_24]
    exact ⟨μ, rfl, h, ps_kM.rf⟩
end Ops20
