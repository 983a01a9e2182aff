variable {bG : Nat}
/-! trade -/
theorem ps_sel_bit {p : Nat → Bool} {k : Nat} : ∀ {n : Nat}, (ps_sel p n).testBit k = (decide (k < n) && p k)
  | 0 => by simp [ps_sel]
  | n + 1 => by
    rw [ps_sel, Nat.testBit_or, ps_sel_bit (n := n)]
    by_cases hk : k = n
    · subst hk
      cases hp : p k <;> simp
    · have e1 : decide (k < n + 1) = decide (k < n) := by
        apply decide_eq_decide.mpr
        omega
      have e2 : (if p n = true then 2 ^ n else 0).testBit k = false := by
        split
        · rw [Nat.testBit_two_pow]
          exact decide_eq_false (fun z => hk z.symm)
        · exact Nat.zero_testBit k
      rw [e1, e2, Bool.or_false]
theorem ps_sel_lt (p : Nat → Bool) : ∀ n, ps_sel p n < 2 ^ n
  | 0 => by simp [ps_sel]
  | n + 1 => by
    have h1 := ps_sel_lt p n
    have h2 : 2 ^ n < 2 ^ (n + 1) := Nat.pow_lt_pow_right (by omega) (by omega)
    rw [ps_sel]
    refine Nat.or_lt_two_pow (by omega) ?_
    split
    · exact h2
    · exact Nat.two_pow_pos _
theorem ps_and_two {m e f : Nat} : (m &&& (2 ^ e ||| 2 ^ f) = 2 ^ e ||| 2 ^ f) ↔ (m.testBit e = true ∧ m.testBit f = true) := by
  constructor
  · intro h
    constructor
    · have := congrArg (fun z => z.testBit e) h
      simpa [Nat.testBit_and, Nat.testBit_or, Nat.testBit_two_pow] using this
    · have := congrArg (fun z => z.testBit f) h
      simpa [Nat.testBit_and, Nat.testBit_or, Nat.testBit_two_pow] using this
  · rintro ⟨h1, h2⟩
    apply Nat.eq_of_testBit_eq
    intro i
    rw [Nat.testBit_and, Nat.testBit_or, Nat.testBit_two_pow, Nat.testBit_two_pow]
    by_cases he : e = i
    · subst he; simp [h1]
    · by_cases hf : f = i
      · subst hf; simp [h2]
      · simp [he, hf]
abbrev ps_T : Type := Nat × Int32 × Int32 × Int32 × Int32
def ps_wfx (S : ps_S) (e i w : Nat) : Bool := !decide (w = S.hd e) && (!(ps_ot S e i).testBit w && ps_fx S (S.hd e) (ps_ot S e i ||| 2 ^ w))
def ps_tr (S : ps_S) (e i f j : Nat) : Bool := ps_wfx S e i (S.us f j) && ps_wfx S f j (S.us e i)
def ps_nt (t : ps_T) (e f i j : Nat) : ps_T := if nI t.1 = 0 then (t.1 + 1, nI e, nI f, nI i, nI j) else (t.1 + 1, t.2)
def ps_tj (S : ps_S) (e f i : Nat) : Nat → Nat → ps_T → ps_T
  | 0, _, t => t
  | k + 1, j, t => ps_tj S e f i k (j + 1) (if ps_tr S e i f j = true then ps_nt t e f i j else t)
def ps_ti (S : ps_S) (e f : Nat) : Nat → Nat → ps_T → ps_T
  | 0, _, t => t
  | k + 1, i, t => ps_ti S e f k (i + 1) (ps_tj S e f i (S.ct f) 0 t)
def ps_tf (S : ps_S) (e : Nat) : Nat → Nat → ps_T → ps_T
  | 0, _, t => t
  | k + 1, f, t => ps_tf S e k (f + 1) (if ps_fxe S e = true ∧ ps_fxe S f = true then t else ps_ti S e f (S.ct e) 0 t)
def ps_te (S : ps_S) : Nat → Nat → ps_T → ps_T
  | 0, _, t => t
  | k + 1, e, t => ps_te S k (e + 1) (ps_tf S e k (e + 1) t)
def ps_t0 : ps_T := (0, am_c (-1), am_c (-1), am_c (-1), am_c (-1))
def ps_trades (S : ps_S) : ps_T := ps_te S S.n 0 ps_t0
def ps_trade (O : ps_O) (x : Int32) : Int32 := if am_ix x ≤ 4 then (if am_ix x = 0 then nI (ps_trades O.S).1 else if am_ix x = 1 then (ps_trades O.S).2.1 else if am_ix x = 2 then (ps_trades O.S).2.2.1 else if am_ix x = 3 then (ps_trades O.S).2.2.2.1 else (ps_trades O.S).2.2.2.2) else am_c (-1)
/-- the four of the first trade in a cell -/
def ps_t4 (K : Nat) (t : ps_T) (μ : am_Mem) : Prop := μ K 0 = t.2.1 ∧ μ K 1 = t.2.2.1 ∧ μ K 2 = t.2.2.2.1 ∧ μ K 3 = t.2.2.2.2
theorem ps_t4.off {K : Nat} {t : ps_T} {μ μ' : am_Mem} (h : ps_t4 K t μ) (e : μ' K = μ K) : ps_t4 K t μ' := by
  unfold ps_t4
  rw [e]
  exact h
section Ops21
variable {S : ps_S}
theorem w803 (d : Nat) {μ : am_Mem} (hR : ps_Rc 1 S μ) (hL : ps_Lc 7 S.law μ) (hW : ps_Wf S) (hl : ps_Lw S.law) {e i w : Nat} (he : e < S.n) (hi : i < S.ct e) (hw : w < S.w) : ∃ μ', am_call (d + 4) 803 [.ref 1, .int (nI e), .int (nI i), .int (nI w)] μ = am_ret (some (.int (nI (ps_wfx S e i w).toNat))) μ' ∧ ps_off [11, 12] μ μ' := by
  obtain ⟨g1, g2, g3, g4, g5, g6, g7, g8, g9⟩ := hW.e he
  obtain ⟨o1, o2⟩ := ps_ot_lt hW he i
  have hu16 := g7 i hi
  have hh : μ 3 e = nI (S.hd e) := hR.2.2.2.2.2.2.2.2.1 e he
  have hu : μ 5 (e * 3 + i) = nI (S.us e i) := hR.2.2.2.2.2.2.2.2.2.2.1 e i he hi
  rw [e803, q803_0, am_ixN (by omega), am_gbI (by omega), w711 (d + 2) hR hW he, am_bI_ret, show am_c 3 = nI 3 from rfl, pk_mul, nI_add, am_ixN (by omega), am_gbI (by omega), hh, hu, show am_c 1 = nI 1 from rfl, am_shl1 (by omega), am_andn, show ps_dif (ps_us S e) (2 ^ S.us e i) = ps_ot S e i from rfl, am_bit (by omega) (by omega), q803_45]
  by_cases c1 : w = S.hd e
  · rw [if_pos (by rw [c1])]
    exact ⟨μ, by rw [ps_wfx, decide_eq_true c1]; rfl, ps_off.rf⟩
  rw [if_neg (by rw [am_eqN (by omega) (by omega)]; exact c1)]
  cases c2 : (ps_ot S e i).testBit w with
  | true =>
    rw [if_neg (by decide)]
    exact ⟨μ, by rw [ps_wfx, decide_eq_false c1, c2]; rfl, ps_off.rf⟩
  | false =>
    have hset : ps_ot S e i ||| 2 ^ w < 2 ^ S.w := Nat.or_lt_two_pow o1 (Nat.pow_lt_pow_right (by omega) (by omega))
    obtain ⟨μ1, a1, a2⟩ := w718 d hR hL hW hl g4 hset
    rw [if_pos (by decide), q803_47, show am_c 1 = nI 1 from rfl, am_shl1 (by omega), am_or, a1, am_bI_ret, am_gbb]
    exact ⟨μ1, by rw [ps_wfx, decide_eq_false c1, c2]; rfl, a2⟩
theorem w804 (d : Nat) {μ : am_Mem} {t : ps_T} (h0 : μ 46 0 = nI t.1) (h4 : ps_t4 47 t μ) (e f i j : Nat) : ∃ μ', am_call (d + 1) 804 [.ref 46, .int (nI e), .int (nI f), .int (nI i), .int (nI j)] μ = am_ret none μ' ∧ ps_scC μ μ' ∧ μ' 46 0 = nI (ps_nt t e f i j).1 ∧ ps_t4 47 (ps_nt t e f i j) μ' ∧ μ' 46 2 = μ 46 2 := by
  rw [e804, q804_0, h0, ps_nt]
  by_cases hc : nI t.1 = 0
  · rw [if_pos hc, if_pos hc, q804_36]
    simp (disch := omega) only [am_upK, h0, am_cN, nI_add]
    refine ⟨_, rfl, (((((ps_scC.rf μ).up rfl).up rfl).up rfl).up rfl).up rfl, by rw [am_upS], ⟨?_, ?_, ?_, ?_⟩, ?_⟩
    all_goals simp (disch := omega) only [am_upK, am_upI, am_upS]
  · rw [if_neg hc, if_neg hc, q804_36, h0, am_cN, nI_add]
    exact ⟨_, rfl, (ps_scC.rf μ).up rfl, by rw [am_upS], h4.off (by rw [am_up_ne (by omega)]), by rw [am_upI (by omega)]⟩
theorem w802_17 (d : Nat) (hW : ps_Wf S) (hl : ps_Lw S.law) {e f i : Nat} (he : e < S.n) (hf : f < S.n) (hi : i < S.ct e) : ∀ k j (t : ps_T) (μ : am_Mem), ps_Rc 1 S μ → ps_Lc 7 S.law μ → j + k = S.ct f → μ 46 0 = nI t.1 → ps_t4 47 t μ → ∃ μ', am_ev (am_call (d + 4)) 802 17 [.ref 46, .ref 1, .int (nI e), .int (nI f), .int (nI i), .int (nI j)] [] μ = am_ev (am_call (d + 4)) 802 86 [.ref 46, .ref 1, .int (nI e), .int (nI f), .int (nI i), .int (nI (S.ct f))] [] μ' ∧ ps_scC μ μ' ∧ μ' 46 0 = nI (ps_tj S e f i k j t).1 ∧ ps_t4 47 (ps_tj S e f i k j t) μ' ∧ μ' 46 2 = μ 46 2 := by
  obtain ⟨g1, g2, g3, g4, g5, g6, g7, g8, g9⟩ := hW.e he
  obtain ⟨-, -, f3, f4, f5, f6, f7, f8, f9⟩ := hW.e hf
  intro k
  induction k with
  | zero =>
    intro j t μ hR hL hj h0 h4
    have hj : j = S.ct f := hj
    subst hj
    rw [q802_17, am_ixN (by omega), am_gbI (by omega), show μ 4 f = nI (S.ct f) from hR.2.2.2.2.2.2.2.2.2.1 f hf, if_pos (by rw [am_leN (by omega) (by omega)]; omega)]
    exact ⟨μ, rfl, ps_scC.rf μ, h0, h4, rfl⟩
  | succ k ih =>
    intro j t μ hR hL hj h0 h4
    have nx : ∀ (μ1 : am_Mem) (t1 : ps_T), ps_scC μ μ1 → μ1 46 0 = nI t1.1 → ps_t4 47 t1 μ1 → μ1 46 2 = μ 46 2 → t1 = (if ps_tr S e i f j = true then ps_nt t e f i j else t) → ∃ μ', am_ev (am_call (d + 4)) 802 80 [.ref 46, .ref 1, .int (nI e), .int (nI f), .int (nI i), .int (nI j)] [] μ1 = am_ev (am_call (d + 4)) 802 86 [.ref 46, .ref 1, .int (nI e), .int (nI f), .int (nI i), .int (nI (S.ct f))] [] μ' ∧ ps_scC μ μ' ∧ μ' 46 0 = nI (ps_tj S e f i (k + 1) j t).1 ∧ ps_t4 47 (ps_tj S e f i (k + 1) j t) μ' ∧ μ' 46 2 = μ 46 2 := by
      intro μ1 t1 h1 h2 h3 h5 ht
      obtain ⟨μ', a1, a2, a3, a4, a5⟩ := ih (j + 1) t1 μ1 (h1.R hR) (h1.L hL) (by omega) h2 h3
      rw [q802_80, am_cN, nI_add, a1, ps_tj, ← ht]
      exact ⟨μ', rfl, h1.tr a2, a3, a4, a5.trans h5⟩
    have huf : μ 5 (f * 3 + j) = nI (S.us f j) := hR.2.2.2.2.2.2.2.2.2.2.1 f j hf (by omega)
    obtain ⟨μ1, a1, a2⟩ := w803 d hR hL hW hl he hi (f7 j (by omega))
    have s1 : ps_scC μ μ1 := ps_scC.of a2 rfl
    have k46 : μ1 46 = μ 46 := a2 46 (by decide)
    have k47 : μ1 47 = μ 47 := a2 47 (by decide)
    rw [q802_17, am_ixN (by omega), am_gbI (by omega), show μ 4 f = nI (S.ct f) from hR.2.2.2.2.2.2.2.2.2.1 f hf, if_neg (by rw [am_leN (by omega) (by omega)]; omega), show am_c 3 = nI 3 from rfl, pk_mul, nI_add, am_ixN (by omega), am_gbI (by omega), huf, a1, am_bI_ret]
    cases c1 : ps_wfx S e i (S.us f j) with
    | false =>
      rw [if_pos (by decide)]
      exact nx μ1 t s1 (by rw [k46]; exact h0) (h4.off k47) (by rw [k46]) (by rw [if_neg]; rw [ps_tr, c1]; simp)
    | true =>
      have hR1 := s1.R hR
      have hue : μ1 5 (e * 3 + i) = nI (S.us e i) := hR1.2.2.2.2.2.2.2.2.2.2.1 e i he hi
      obtain ⟨μ2, b1, b2⟩ := w803 d hR1 (s1.L hL) hW hl hf (i := j) (by omega) (g7 i hi)
      have s2 : ps_scC μ μ2 := s1.tr (ps_scC.of b2 rfl)
      have k46' : μ2 46 = μ 46 := (b2 46 (by decide)).trans k46
      have k47' : μ2 47 = μ 47 := (b2 47 (by decide)).trans k47
      rw [if_neg (by decide), pk_mul, nI_add, am_ixN (by omega), am_gbI (by omega), hue, b1, am_bI_ret]
      cases c2 : ps_wfx S f j (S.us e i) with
      | false =>
        rw [if_pos (by decide)]
        exact nx μ2 t s2 (by rw [k46']; exact h0) (h4.off k47') (by rw [k46']) (by rw [if_neg]; rw [ps_tr, c1, c2]; simp)
      | true =>
        obtain ⟨μ3, n1, n2, n3, n4, n5⟩ := w804 (d + 3) (μ := μ2) (t := t) (by rw [k46']; exact h0) (h4.off k47') e f i j
        rw [if_neg (by decide), n1, am_bV_ret]
        exact nx μ3 _ (s2.tr n2) n3 n4 (by rw [n5, k46']) (by rw [if_pos]; rw [ps_tr, c1, c2]; rfl)
theorem w802_3 (d : Nat) (hW : ps_Wf S) (hl : ps_Lw S.law) {e f : Nat} (he : e < S.n) (hf : f < S.n) : ∀ k i (t : ps_T) (μ : am_Mem) (x5 : Value), ps_Rc 1 S μ → ps_Lc 7 S.law μ → i + k = S.ct e → μ 46 0 = nI t.1 → ps_t4 47 t μ → ∃ μ', am_ev (am_call (d + 4)) 802 3 [.ref 46, .ref 1, .int (nI e), .int (nI f), .int (nI i), x5] [] μ = am_ret none μ' ∧ ps_scC μ μ' ∧ μ' 46 0 = nI (ps_ti S e f k i t).1 ∧ ps_t4 47 (ps_ti S e f k i t) μ' ∧ μ' 46 2 = μ 46 2 := by
  obtain ⟨g1, g2, g3, g4, g5, g6, g7, g8, g9⟩ := hW.e he
  intro k
  induction k with
  | zero =>
    intro i t μ x5 hR hL hi h0 h4
    rw [q802_3, am_ixN (by omega), am_gbI (by omega), show μ 4 e = nI (S.ct e) from hR.2.2.2.2.2.2.2.2.2.1 e he, if_pos (by rw [am_leN (by omega) (by omega)]; omega), q802_92]
    exact ⟨μ, rfl, ps_scC.rf μ, h0, h4, rfl⟩
  | succ k ih =>
    intro i t μ x5 hR hL hi h0 h4
    obtain ⟨μ1, a1, a2, a3, a4, a5⟩ := w802_17 d hW hl he hf (i := i) (by omega) (S.ct f) 0 t μ hR hL (by omega) h0 h4
    obtain ⟨μ', b1, b2, b3, b4, b5⟩ := ih (i + 1) _ μ1 (.int (nI (S.ct f))) (a2.R hR) (a2.L hL) (by omega) a3 a4
    rw [q802_3, am_ixN (by omega), am_gbI (by omega), show μ 4 e = nI (S.ct e) from hR.2.2.2.2.2.2.2.2.2.1 e he, if_neg (by rw [am_leN (by omega) (by omega)]; omega), show am_c 0 = nI 0 from rfl, a1, q802_86, am_cN, nI_add, b1]
    exact ⟨μ', rfl, a2.tr b2, b3, b4, b5.trans a5⟩
theorem w802 (d : Nat) (hW : ps_Wf S) (hl : ps_Lw S.law) {e f : Nat} (he : e < S.n) (hf : f < S.n) {t : ps_T} {μ : am_Mem} (hR : ps_Rc 1 S μ) (hL : ps_Lc 7 S.law μ) (h0 : μ 46 0 = nI t.1) (h4 : ps_t4 47 t μ) : ∃ μ', am_call (d + 5) 802 [.ref 46, .ref 1, .int (nI e), .int (nI f)] μ = am_ret none μ' ∧ ps_scC μ μ' ∧ μ' 46 0 = nI (ps_ti S e f (S.ct e) 0 t).1 ∧ ps_t4 47 (ps_ti S e f (S.ct e) 0 t) μ' ∧ μ' 46 2 = μ 46 2 := by
  rw [e802, q802_0]
  exact w802_3 d hW hl he hf (S.ct e) 0 t μ _ hR hL (by omega) h0 h4
theorem w801_88 (d : Nat) (hW : ps_Wf S) (hl : ps_Lw S.law) {e : Nat} (he : e < S.n) : ∀ k f (t : ps_T) (μ : am_Mem) (x4 : Value), ps_Rc 1 S μ → ps_Lc 7 S.law μ → f + k = S.n → μ 46 0 = nI t.1 → ps_t4 47 t μ → μ 46 2 = nI (ps_sel (ps_fxe S) S.n) → ∃ μ' y4, am_ev (am_call (d + 5)) 801 88 [.ref 46, .ref 1, .int (nI e), .int (nI f), x4] [] μ = am_ev (am_call (d + 5)) 801 130 [.ref 46, .ref 1, .int (nI e), .int (nI S.n), y4] [] μ' ∧ ps_scC μ μ' ∧ μ' 46 0 = nI (ps_tf S e k f t).1 ∧ ps_t4 47 (ps_tf S e k f t) μ' ∧ μ' 46 2 = nI (ps_sel (ps_fxe S) S.n) := by
  have n12 : S.n ≤ 12 := hW.2.2.2.2.2.2.1
  intro k
  induction k with
  | zero =>
    intro f t μ x4 hR hL hf h0 h4 h2
    have hf : f = S.n := hf
    subst hf
    have r8 : μ 1 7 = nI S.n := hR.2.2.2.2.2.2.2.1
    rw [q801_88, r8, if_pos (by rw [am_leN (by omega) (by omega)]; omega)]
    exact ⟨μ, _, rfl, ps_scC.rf μ, h0, h4, h2⟩
  | succ k ih =>
    intro f t μ x4 hR hL hf h0 h4 h2
    have r8 : μ 1 7 = nI S.n := hR.2.2.2.2.2.2.2.1
    have sl := ps_sel_lt (ps_fxe S) S.n
    have p12 : 2 ^ S.n ≤ 2 ^ 12 := Nat.pow_le_pow_right (by omega) n12
    have pe : 2 ^ e < 2 ^ 12 := Nat.pow_lt_pow_right (by omega) (by omega)
    have pf : 2 ^ f < 2 ^ 12 := Nat.pow_lt_pow_right (by omega) (by omega)
    have pb : 2 ^ e ||| 2 ^ f < 2 ^ 12 := Nat.or_lt_two_pow pe pf
    have pa : ps_sel (ps_fxe S) S.n &&& (2 ^ e ||| 2 ^ f) < 2 ^ 12 := Nat.and_lt_two_pow _ pb
    have hc : (ps_sel (ps_fxe S) S.n &&& (2 ^ e ||| 2 ^ f) = 2 ^ e ||| 2 ^ f) ↔ (ps_fxe S e = true ∧ ps_fxe S f = true) := by
      rw [ps_and_two, ps_sel_bit, ps_sel_bit, decide_eq_true he, decide_eq_true (show f < S.n by omega), Bool.true_and, Bool.true_and]
    rw [q801_88, r8, if_neg (by rw [am_leN (by omega) (by omega)]; omega), h2, show am_c 1 = nI 1 from rfl, am_shl1 (by omega), am_shl1 (by omega), am_or, am_and]
    by_cases hb : ps_fxe S e = true ∧ ps_fxe S f = true
    · rw [if_pos (by rw [hc.mpr hb]), q801_124, am_cN, nI_add, ps_tf, if_pos hb]
      exact ih (f + 1) t μ _ hR hL (by omega) h0 h4 h2
    · obtain ⟨μ1, a1, a2, a3, a4, a5⟩ := w802 d hW hl he (f := f) (by omega) hR hL h0 h4
      obtain ⟨μ', y4, b1, b2, b3⟩ := ih (f + 1) _ μ1 (.int (nI (2 ^ e ||| 2 ^ f))) (a2.R hR) (a2.L hL) (by omega) a3 a4 (by rw [a5]; exact h2)
      rw [if_neg (by rw [am_eqN (by omega) (by omega), hc]; exact hb), a1, am_bV_ret, q801_124, am_cN, nI_add, ps_tf, if_neg hb, b1]
      exact ⟨μ', y4, rfl, a2.tr b2, b3⟩
theorem w801_76 (d : Nat) (hW : ps_Wf S) (hl : ps_Lw S.law) : ∀ k e (t : ps_T) (μ : am_Mem) (x3 x4 : Value), ps_Rc 1 S μ → ps_Lc 7 S.law μ → e + k = S.n → μ 46 0 = nI t.1 → ps_t4 47 t μ → μ 46 2 = nI (ps_sel (ps_fxe S) S.n) → ∃ μ', am_ev (am_call (d + 5)) 801 76 [.ref 46, .ref 1, .int (nI e), x3, x4] [] μ = am_ret none μ' ∧ ps_scC μ μ' ∧ μ' 46 0 = nI (ps_te S k e t).1 ∧ ps_t4 47 (ps_te S k e t) μ' := by
  have n12 : S.n ≤ 12 := hW.2.2.2.2.2.2.1
  intro k
  induction k with
  | zero =>
    intro e t μ x3 x4 hR hL he h0 h4 h2
    have r8 : μ 1 7 = nI S.n := hR.2.2.2.2.2.2.2.1
    rw [q801_76, r8, if_pos (by rw [am_leN (by omega) (by omega)]; omega), q801_136]
    exact ⟨μ, rfl, ps_scC.rf μ, h0, h4⟩
  | succ k ih =>
    intro e t μ x3 x4 hR hL he h0 h4 h2
    have r8 : μ 1 7 = nI S.n := hR.2.2.2.2.2.2.2.1
    obtain ⟨μ1, y4, a1, a2, a3, a4, a5⟩ := w801_88 d hW hl (e := e) (by omega) k (e + 1) t μ x4 hR hL (by omega) h0 h4 h2
    obtain ⟨μ', b1, b2, b3⟩ := ih (e + 1) _ μ1 (.int (nI S.n)) y4 (a2.R hR) (a2.L hL) (by omega) a3 a4 a5
    rw [q801_76, r8, if_neg (by rw [am_leN (by omega) (by omega)]; omega), show am_c 1 = nI 1 from rfl, nI_add, a1, q801_130, show am_c 1 = nI 1 from rfl, nI_add, b1]
    exact ⟨μ', rfl, a2.tr b2, b3⟩
theorem w801_36 (d : Nat) (hW : ps_Wf S) (hl : ps_Lw S.law) : ∀ k e (μ : am_Mem) (x3 x4 : Value), ps_Rc 1 S μ → ps_Lc 7 S.law μ → e + k = S.n → μ 46 0 = nI 0 → ps_t4 47 ps_t0 μ → μ 46 2 = nI (ps_sel (ps_fxe S) e) → ∃ μ', am_ev (am_call (d + 5)) 801 36 [.ref 46, .ref 1, .int (nI e), x3, x4] [] μ = am_ret none μ' ∧ ps_scC μ μ' ∧ μ' 46 0 = nI (ps_trades S).1 ∧ ps_t4 47 (ps_trades S) μ' := by
  have n12 : S.n ≤ 12 := hW.2.2.2.2.2.2.1
  intro k
  induction k with
  | zero =>
    intro e μ x3 x4 hR hL he h0 h4 h2
    have he : e = S.n := he
    subst he
    have r8 : μ 1 7 = nI S.n := hR.2.2.2.2.2.2.2.1
    rw [q801_36, r8, if_pos (by rw [am_leN (by omega) (by omega)]; omega), q801_74]
    exact w801_76 d hW hl S.n 0 ps_t0 μ x3 x4 hR hL (by omega) h0 h4 h2
  | succ k ih =>
    intro e μ x3 x4 hR hL he h0 h4 h2
    have r8 : μ 1 7 = nI S.n := hR.2.2.2.2.2.2.2.1
    obtain ⟨μ1, a1, a2⟩ := w717 (d + 1) hR hL hW hl (e := e) (by omega)
    have s1 : ps_scC μ μ1 := ps_scC.of a2 rfl
    have k46 : μ1 46 = μ 46 := a2 46 (by decide)
    have k47 : μ1 47 = μ 47 := a2 47 (by decide)
    have nx : ∀ s : Nat, s = (if ps_fxe S e = true then 2 ^ e else 0) → ∃ μ', am_ev (am_call (d + 5)) 801 64 [.ref 46, .ref 1, .int (nI e), x3, x4] [.int (nI s), .int (nI (ps_sel (ps_fxe S) e)), .ref 46] μ1 = am_ret none μ' ∧ ps_scC μ μ' ∧ μ' 46 0 = nI (ps_trades S).1 ∧ ps_t4 47 (ps_trades S) μ' := by
      intro s hs
      have s2 : ps_scC μ1 (am_up μ1 46 2 (nI (ps_sel (ps_fxe S) e ||| s))) := (ps_scC.rf μ1).up rfl
      obtain ⟨μ', b1, b2, b3⟩ := ih (e + 1) (am_up μ1 46 2 (nI (ps_sel (ps_fxe S) e ||| s))) x3 x4 (s2.R (s1.R hR)) (s2.L (s1.L hL)) (by omega) (by rw [am_upI (by omega), k46]; exact h0) ((h4.off k47).off (by rw [am_up_ne (by omega)])) (by rw [am_upS, ps_sel, hs])
      rw [q801_64, am_or, am_cN, nI_add, b1]
      exact ⟨μ', rfl, (s1.tr s2).tr b2, b3⟩
    rw [q801_36, r8, if_neg (by rw [am_leN (by omega) (by omega)]; omega), a1, am_bI_ret, h2, q801_63, show am_c 1 = nI 1 from rfl, am_shl1 (by omega)]
    cases hb : ps_fxe S e with
    | true =>
      rw [if_neg (by decide)]
      exact nx _ (by rw [hb, if_pos rfl])
    | false =>
      rw [if_pos (by decide)]
      exact nx 0 (by rw [hb]; rfl)
theorem C_trade (d : Nat) (O : ps_O) (hO : ps_Ow O) (x : Int32) : ps_sC bG (d + 7) 923 [.ref 0, .int x] O (some (.int (ps_trade O x))) O := by
  intro μ h
  have e := am_rngB x (a := 0) (b := 4) (by omega) (by omega) (am_ret (some (.int (am_c (-1)))) μ) (am_ev (am_call (d + 6)) 923 11 [.ref 0, .int x] [] μ)
  rw [e923, q923_0, q923_9, show (if x < (0 : Int32) then am_ret (some (.int (am_c (-1)))) μ else if x ≤ am_c 4 then am_ev (am_call (d + 6)) 923 11 [.ref 0, .int x] [] μ else am_ret (some (.int (am_c (-1)))) μ) = _ from e, ps_trade]
  by_cases hx : am_ix x ≤ 4
  · rw [if_pos ⟨Nat.zero_le _, hx⟩, if_pos hx, q923_11, e801, q801_0]
    have st : ∀ (i : Nat) (μ2 : am_Mem), i < 4 → am_ev (am_call (d + 5)) 801 12 [.ref 46, .ref 1, .int (nI i), .null, .null] [] μ2 = am_ev (am_call (d + 5)) 801 12 [.ref 46, .ref 1, .int (nI (i + 1)), .null, .null] [] (am_up μ2 47 i (am_c (-1))) := by
      intro i μ2 hi
      rw [q801_12, if_neg (by rw [show (4 : Int32) = nI 4 from rfl, am_leN (by omega) (by omega)]; omega), am_ixN (by omega), am_gbI hi, am_cN, nI_add]
    rw [show am_c 0 = nI 0 from rfl, st 0 _ (by omega)]
    rw [st 1 _ (by omega)]
    rw [st 2 _ (by omega)]
    rw [st 3 _ (by omega), q801_12, if_pos (by decide), q801_34]
    generalize hμ1 : am_up (am_up (am_up (am_up (am_up (am_up μ 46 0 (nI 0)) 46 2 (nI 0)) 47 0 (am_c (-1))) 47 1 (am_c (-1))) 47 2 (am_c (-1))) 47 3 (am_c (-1)) = μ1
    have s1 : ps_scC μ μ1 := by rw [← hμ1]; exact ((((((ps_scC.rf μ).up rfl).up rfl).up rfl).up rfl).up rfl).up rfl
    obtain ⟨μ', a1, a2, a3, a4⟩ := w801_36 d hO.1 hO.2.1 O.S.n 0 μ1 .null .null (s1.R h.1) (s1.L h.2.1) (by omega) (by rw [← hμ1]; simp (disch := omega) only [am_upK, am_upI, am_upS]) (by rw [← hμ1]; exact ⟨by simp (disch := omega) only [am_upK, am_upI, am_upS]; rfl, by simp (disch := omega) only [am_upK, am_upI, am_upS]; rfl, by simp (disch := omega) only [am_upK, am_upI, am_upS]; rfl, by simp (disch := omega) only [am_upK, am_upI, am_upS]; rfl⟩) (by rw [← hμ1]; simp (disch := omega) only [am_upK, am_upI, am_upS]; rfl)
    have sc := s1.tr a2
    rw [show am_c 0 = nI 0 from rfl, a1, am_bV_ret, q923_36, q923_47, q923_47, a3]
    refine ⟨μ', ?_, sc.I h, sc.k⟩
    obtain ⟨k, hk, rfl⟩ := am_le_ix (by omega) hx
    obtain ⟨t1, t2, t3, t4⟩ := a4
    rw [am_ixN (by omega)]
    rcases (show k = 0 ∨ k = 1 ∨ k = 2 ∨ k = 3 ∨ k = 4 by omega) with rfl | rfl | rfl | rfl | rfl
    · rfl
    · rw [if_neg (by decide), show am_ix (nI 1 - am_c 1) = 0 from rfl, am_gbI (by omega), t1]; rfl
    · rw [if_neg (by decide), show am_ix (nI 2 - am_c 1) = 1 from rfl, am_gbI (by omega), t2]; rfl
    · rw [if_neg (by decide), show am_ix (nI 3 - am_c 1) = 2 from rfl, am_gbI (by omega), t3]; rfl
    · rw [if_neg (by decide), show am_ix (nI 4 - am_c 1) = 3 from rfl, am_gbI (by omega), t4]; rfl
  · rw [if_neg (fun z => hx z.2), if_neg hx]
    exact ⟨μ, rfl, h, ps_kC.rf⟩
end Ops21
