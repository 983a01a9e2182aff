variable {bG : Nat}
/-! order and ring -/
def ps_rdy (S : ps_S) (h l e : Nat) : Bool := l.testBit e && decide (ps_dif (ps_us S e) h = 0)
def ps_fr (S : ps_S) (h l : Nat) : Nat → Nat → Option Nat
  | 0, _ => none
  | k + 1, e => if ps_rdy S h l e = true then some e else ps_fr S h l k (e + 1)
def ps_od (S : ps_S) : Nat → Nat → Nat → List Nat → List Nat × Nat
  | 0, _, l, r => (r, l)
  | j + 1, h, l, r => match ps_fr S h l S.n 0 with
    | none => (r, l)
    | some e => ps_od S j (h ||| 2 ^ S.hd e) (ps_dif l (2 ^ e)) (r ++ [e])
theorem ps_fr_some {S : ps_S} {h l e' : Nat} : ∀ {k e : Nat}, ps_fr S h l k e = some e' → e ≤ e' ∧ e' < e + k ∧ ps_rdy S h l e' = true
  | 0, e, hh => by simp [ps_fr] at hh
  | k + 1, e, hh => by
    rw [ps_fr] at hh
    by_cases hc : ps_rdy S h l e = true
    · rw [if_pos hc] at hh
      cases hh
      exact ⟨Nat.le_refl _, by omega, hc⟩
    · rw [if_neg hc] at hh
      have := ps_fr_some (k := k) hh
      exact ⟨by omega, by omega, this.2.2⟩
theorem ps_cnt_lt {p q : Nat → Bool} {e : Nat} : ∀ {n : Nat}, (∀ x, x < n → p x = true → q x = true) → e < n → p e = false → q e = true → ps_cnt p n < ps_cnt q n
  | 0, _, he, _, _ => by omega
  | n + 1, h, he, h1, h2 => by
    have hle : ∀ m, m ≤ n → ps_cnt p m ≤ ps_cnt q m := by
      intro m
      induction m with
      | zero => intro _; exact Nat.le_refl _
      | succ m ih =>
        intro hm
        have := ih (by omega)
        have hx := h m (by omega)
        rw [ps_cnt, ps_cnt]
        have : (p m).toNat ≤ (q m).toNat := by
          cases hp : p m with
          | false => exact Nat.zero_le _
          | true => rw [hx hp]; exact Nat.le_refl _
        omega
    rw [ps_cnt, ps_cnt]
    by_cases hen : e = n
    · subst hen
      have := hle e (Nat.le_refl _)
      rw [h1, h2]
      show _ + 0 < _ + 1
      omega
    · have ih := ps_cnt_lt (p := p) (q := q) (e := e) (n := n) (fun x hx => h x (by omega)) (by omega) h1 h2
      have hx := h n (by omega)
      have : (p n).toNat ≤ (q n).toNat := by
        cases hp : p n with
        | false => exact Nat.zero_le _
        | true => rw [hx hp]; exact Nat.le_refl _
      omega
def ps_lc (S : ps_S) (l : Nat) : Nat := ps_cnt (fun k => l.testBit k) S.n
theorem ps_lc_lt {S : ps_S} {l e : Nat} (he : e < S.n) (hb : l.testBit e = true) : ps_lc S (ps_dif l (2 ^ e)) < ps_lc S l := by
  refine ps_cnt_lt (e := e) (fun x _ hx => ?_) he ?_ hb
  · rw [ps_dif_bit, Bool.and_eq_true] at hx
    exact hx.1
  · rw [ps_dif_bit, Nat.testBit_two_pow, decide_eq_true rfl]
    simp
theorem ps_lc_0 {S : ps_S} {h l : Nat} (h0 : ps_lc S l = 0) : ∀ k e, e + k ≤ S.n → ps_fr S h l k e = none
  | 0, e, _ => rfl
  | k + 1, e, he => by
    have hb : l.testBit e = false := by
      cases hb : l.testBit e with
      | false => rfl
      | true =>
        have := ps_cnt_ge (p := fun k => l.testBit k) (e := e) (n := S.n) (by omega)
        rw [hb] at this
        have h0 : ps_cnt (fun k => l.testBit k) S.n = 0 := h0
        rw [h0] at this
        exact absurd this (by decide)
    rw [ps_fr, ps_rdy, hb, Bool.false_and, if_neg (by decide)]
    exact ps_lc_0 h0 k (e + 1) (by omega)
theorem ps_od_len {S : ps_S} : ∀ (j h l : Nat) (r : List Nat), (ps_od S j h l r).1.length ≤ r.length + j
  | 0, _, _, _ => Nat.le_refl _
  | j + 1, h, l, r => by
    rw [ps_od]
    cases hf : ps_fr S h l S.n 0 with
    | none => exact Nat.le_add_right _ _
    | some e =>
      have := ps_od_len (S := S) j (h ||| 2 ^ S.hd e) (ps_dif l (2 ^ e)) (r ++ [e])
      rw [List.length_append] at this
      have h1 : ([e] : List Nat).length = 1 := rfl
      show (ps_od S j (h ||| 2 ^ S.hd e) (ps_dif l (2 ^ e)) (r ++ [e])).1.length ≤ r.length + (j + 1)
      omega
def ps_Ro (K : Nat) (r : List Nat) (μ : am_Mem) : Prop := ∀ i e, r[i]? = some e → μ K i = nI e
theorem ps_Ro.add {K : Nat} {r : List Nat} {μ : am_Mem} (h : ps_Ro K r μ) (e : Nat) : ps_Ro K (r ++ [e]) (am_up μ K r.length (nI e)) := fun i e' hi => by
  rw [List.getElem?_append] at hi
  by_cases hr : i < r.length
  · rw [if_pos hr] at hi
    rw [am_upI (by omega)]
    exact h i e' hi
  · rw [if_neg hr] at hi
    have h0 : i - r.length = 0 := by
      rcases Nat.eq_zero_or_pos (i - r.length) with z | z
      · exact z
      · rw [List.getElem?_eq_none (by rw [List.length_singleton]; omega)] at hi
        exact absurd hi (by simp)
    rw [h0] at hi
    have he : e = e' := by simpa using hi
    have hil : i = r.length := by omega
    subst he hil
    rw [am_upS]
theorem ps_Ro.off {K : Nat} {r : List Nat} {μ μ' : am_Mem} (h : ps_Ro K r μ) (e : μ' K = μ K) : ps_Ro K r μ' := fun i e' hi => by
  rw [e]
  exact h i e' hi
theorem ps_rg_get : ∀ {k e r : Nat}, r < k → (ps_rg k e)[r]? = some (e + r)
  | 0, _, _, h => by omega
  | k + 1, e, 0, _ => rfl
  | k + 1, e, r + 1, h => by
    rw [ps_rg, List.getElem?_cons_succ, ps_rg_get (k := k) (by omega)]
    congr 1
    omega
def ps_oi (o : Option Nat) : Int32 := match o with
  | none => am_c (-1)
  | some e => nI e
section Ops24
variable {S : ps_S}
theorem w501_7 (d : Nat) (hW : ps_Wf S) : ∀ k e (A : List Nat) (μ : am_Mem), ps_Rc 1 S μ → e + k = S.n → ps_Ru S A μ → A.length ≤ e → ∃ μ', am_ev (am_call (d + 2)) 501 7 [.ref 42, .ref 1, .int (nI e)] [] μ = am_ret none μ' ∧ ps_off [42, 43, 44] μ μ' ∧ ps_Ru S (A ++ ps_rg k e) μ' := by
  have n12 : S.n ≤ 12 := hW.2.2.2.2.2.2.1
  intro k
  induction k with
  | zero =>
    intro e A μ hR he hA hA2
    have r8 : μ 1 7 = nI S.n := hR.2.2.2.2.2.2.2.1
    rw [q501_7, r8, if_pos (by rw [am_leN (by omega) (by omega)]; omega), q501_27]
    refine ⟨μ, rfl, ps_off.rf, ?_⟩
    rw [ps_rg, List.append_nil]
    exact hA
  | succ k ih =>
    intro e A μ hR he hA hA2
    have r8 : μ 1 7 = nI S.n := hR.2.2.2.2.2.2.2.1
    obtain ⟨μ2, c1, c2, c3⟩ := w503 d hR hW hA (by omega) (e := e) (by omega)
    have s2 : ps_scC μ μ2 := ps_scC.of c2 rfl
    obtain ⟨μ', b1, b2, b3⟩ := ih (e + 1) (A ++ [e]) μ2 (s2.R hR) (by omega) c3 (by rw [List.length_append]; exact Nat.succ_le_succ hA2)
    rw [q501_7, r8, if_neg (by rw [am_leN (by omega) (by omega)]; omega), c1, am_bV_ret, am_cN, nI_add, b1]
    refine ⟨μ', rfl, c2.tr b2, ?_⟩
    rw [List.append_assoc] at b3
    exact b3
theorem w501 (d : Nat) (hW : ps_Wf S) {μ : am_Mem} (hR : ps_Rc 1 S μ) : ∃ μ', am_call (d + 3) 501 [.ref 42, .ref 1] μ = am_ret none μ' ∧ ps_off [42, 43, 44] μ μ' ∧ ps_Ru S (ps_rg S.n 0) μ' := by
  have s0 : ps_scC μ (am_up μ 42 2 (am_c 0)) := (ps_scC.rf μ).up rfl
  obtain ⟨μ', a1, a2, a3⟩ := w501_7 d hW S.n 0 [] (am_up μ 42 2 (am_c 0)) (s0.R hR) (by omega) ⟨by rw [am_upS]; rfl, fun r e hr => by simp at hr⟩ (Nat.le_refl _)
  rw [e501, q501_0, show am_ev (am_call (d + 2)) 501 7 [.ref 42, .ref 1, .int (am_c 0)] [] (am_up μ 42 2 (am_c 0)) = _ from a1]
  exact ⟨μ', rfl, (ps_off.rf.up (by decide)).tr a2, a3⟩
theorem w508 (d : Nat) (hW : ps_Wf S) {μ : am_Mem} (hA : ps_Ru S (ps_rg S.n 0) μ) {h l : Nat} (h5 : μ 42 5 = nI l) (hl : l < 65536) : am_call (d + 1) 508 [.ref 42, .int (nI h)] μ = am_ret (some (.int (ps_oi (ps_fr S h l S.n 0)))) μ := by
  have n12 : S.n ≤ 12 := hW.2.2.2.2.2.2.1
  have h2 : μ 42 2 = nI S.n := by rw [hA.1, ps_rg_len]
  have lp : ∀ k e, e + k = S.n → am_ev (am_call d) 508 2 [.ref 42, .int (nI h), .int (nI e)] [] μ = am_ret (some (.int (ps_oi (ps_fr S h l k e)))) μ := by
    intro k
    induction k with
    | zero =>
      intro e he
      rw [q508_2, h2, if_pos (by rw [am_leN (by omega) (by omega)]; omega), q508_42]
      rfl
    | succ k ih =>
      intro e he
      obtain ⟨g1, g2, g3, g4, g5, g6, g7, g8, g9⟩ := hW.e (e := e) (by omega)
      have hd : ps_dif (ps_us S e) h < 2 ^ 16 := ps_dif_lt g9
      have n1 : μ 43 e = nI (ps_us S e) := (hA.2 e e (by rw [ps_rg_get (by omega), Nat.zero_add])).1
      rw [q508_2, h2, if_neg (by rw [am_leN (by omega) (by omega)]; omega), h5, show am_c 1 = nI 1 from rfl, am_bit (by omega) (by omega), am_ixN (by omega), am_gbI (by omega), n1, am_andn, q508_36, show am_c 1 = nI 1 from rfl, nI_add, ps_fr, ps_rdy]
      cases hb : l.testBit e with
      | false =>
        rw [if_pos (by decide), Bool.false_and, if_neg (by decide)]
        exact ih (e + 1) (by omega)
      | true =>
        rw [if_neg (by decide), Bool.true_and]
        by_cases hc : ps_dif (ps_us S e) h = 0
        · rw [if_pos (by rw [am_eq0 (by omega)]; exact hc), if_pos (decide_eq_true hc)]
          rfl
        · rw [if_neg (by rw [am_eq0 (by omega)]; exact hc), if_neg (by simpa using hc)]
          exact ih (e + 1) (by omega)
  rw [e508, q508_0]
  exact lp S.n 0 (by omega)
theorem w507_29 (d : Nat) (hW : ps_Wf S) : ∀ j h l (r : List Nat) (x4 : Value) (μ : am_Mem), ps_Ru S (ps_rg S.n 0) μ → r.length + j = S.n → h < 65536 → l < 65536 → μ 42 4 = nI r.length → μ 42 5 = nI l → ps_Ro 45 r μ → ∃ μ', am_ev (am_call (d + 1)) 507 29 [.ref 42, .ref 1, .int (nI h), .int (nI r.length), x4] [] μ = am_ret none μ' ∧ ps_off [42, 45] μ μ' ∧ μ' 42 4 = nI (ps_od S j h l r).1.length ∧ μ' 42 5 = nI (ps_od S j h l r).2 ∧ ps_Ro 45 (ps_od S j h l r).1 μ' := by
  have n12 : S.n ≤ 12 := hW.2.2.2.2.2.2.1
  intro j
  induction j with
  | zero =>
    intro h l r x4 μ hA hr hh hl h4 h5 hro
    have h2 : μ 42 2 = nI S.n := by rw [hA.1, ps_rg_len]
    rw [q507_29, h2, if_pos (by rw [am_leN (by omega) (by omega)]; omega), q507_103]
    exact ⟨μ, rfl, ps_off.rf, h4, h5, hro⟩
  | succ j ih =>
    intro h l r x4 μ hA hr hh hl h4 h5 hro
    have h2 : μ 42 2 = nI S.n := by rw [hA.1, ps_rg_len]
    rw [q507_29, h2, if_neg (by rw [am_leN (by omega) (by omega)]; omega), w508 d hW hA h5 hl, am_bI_ret, ps_od]
    cases hf : ps_fr S h l S.n 0 with
    | none =>
      rw [if_pos (show ps_oi none = am_c (-1) from rfl)]
      exact ⟨μ, rfl, ps_off.rf, h4, h5, hro⟩
    | some e =>
      obtain ⟨f1, f2, f3⟩ := ps_fr_some hf
      obtain ⟨g1, g2, g3, g4, g5, g6, g7, g8, g9⟩ := hW.e (e := e) (by omega)
      have n2 : μ 44 e = nI (2 ^ S.hd e) := (hA.2 e e (by rw [ps_rg_get (by omega), Nat.zero_add])).2
      have ph : 2 ^ S.hd e < 2 ^ 16 := Nat.pow_lt_pow_right (by omega) (by omega)
      have hd : ps_dif l (2 ^ e) < 2 ^ 16 := ps_dif_lt hl
      have hor : h ||| 2 ^ S.hd e < 2 ^ 16 := Nat.or_lt_two_pow hh ph
      have en : ¬ nI e = am_c (-1) := nI_m1 (by omega)
      rw [show ps_oi (some e) = nI e from rfl, if_neg en, q507_51, h4]
      simp (disch := omega) only [am_upK, am_upI, h4, h5, n2, am_ixN, am_gbI, am_cN, nI_add, am_shl1]
      rw [show nI (2 ^ e) ^^^ am_c (-1) = nI (2 ^ e) ^^^ am_c (-1) from rfl, am_andn, am_or]
      obtain ⟨μ', b1, b2, b3⟩ := ih (h ||| 2 ^ S.hd e) (ps_dif l (2 ^ e)) (r ++ [e]) (.int (nI e)) (am_up (am_up (am_up μ 45 r.length (nI e)) 42 4 (nI (r.length + 1))) 42 5 (nI (ps_dif l (2 ^ e)))) (hA.off (by rw [am_upI (by omega), am_upI (by omega), am_upK (by omega)]) (by rw [am_up_ne (by omega), am_up_ne (by omega), am_up_ne (by omega)]) (by rw [am_up_ne (by omega), am_up_ne (by omega), am_up_ne (by omega)])) (by rw [List.length_append, List.length_singleton]; omega) hor hd (by rw [am_upI (by omega), am_upS, List.length_append]; rfl) (by rw [am_upS]) ((hro.add e).off (by rw [am_up_ne (by omega), am_up_ne (by omega)]))
      rw [List.length_append, List.length_singleton] at b1
      rw [b1]
      exact ⟨μ', rfl, (((ps_off.rf.up (by decide)).up (by decide)).up (by decide)).tr b2, b3⟩
def ps_ord (S : ps_S) : List Nat × Nat := ps_od S S.n S.kn (2 ^ S.n - 1) []
theorem w507 (d : Nat) (hW : ps_Wf S) {μ : am_Mem} (hR : ps_Rc 1 S μ) : ∃ μ', am_call (d + 4) 507 [.ref 42, .ref 1] μ = am_ret none μ' ∧ ps_scC μ μ' ∧ μ' 42 4 = nI (ps_ord S).1.length ∧ μ' 42 5 = nI (ps_ord S).2 ∧ ps_Ro 45 (ps_ord S).1 μ' := by
  have n12 : S.n ≤ 12 := hW.2.2.2.2.2.2.1
  have p12 : 2 ^ S.n ≤ 2 ^ 12 := Nat.pow_le_pow_right (by omega) n12
  have p0 : 1 ≤ 2 ^ S.n := Nat.one_le_two_pow
  have hk := ps_kn_lt hW
  obtain ⟨μ1, a1, a2, a3⟩ := w501 d hW hR
  have h2 : μ1 42 2 = nI S.n := by rw [a3.1, ps_rg_len]
  have hkn : μ1 1 6 = nI S.kn := by rw [a2 1 (by decide)]; exact hR.2.2.1
  rw [e507, q507_0, a1, am_bV_ret]
  simp (disch := omega) only [am_upK, am_upI, h2, hkn, am_cN, am_shl1, pk_sub]
  obtain ⟨μ', b1, b2, b3⟩ := w507_29 (d + 2) hW S.n S.kn (2 ^ S.n - 1) [] .null (am_up (am_up μ1 42 4 (nI 0)) 42 5 (nI (2 ^ S.n - 1))) (a3.off (by rw [am_upI (by omega), am_upI (by omega)]) (by rw [am_up_ne (by omega), am_up_ne (by omega)]) (by rw [am_up_ne (by omega), am_up_ne (by omega)])) (by rw [List.length_nil]; omega) hk (by omega) (by rw [am_upI (by omega), am_upS]; rfl) (by rw [am_upS]) (fun i e hi => by simp at hi)
  refine ⟨μ', b1, (ps_scC.of a2 rfl).tr ((((ps_scC.rf μ1).up rfl).up rfl).tr (ps_scC.of b2 rfl)), b3⟩
end Ops24
def ps_order (O : ps_O) (x : Int32) : Int32 := ps_oi ((ps_ord O.S).1[am_ix x]?)
theorem C_order (d : Nat) (O : ps_O) (hO : ps_Ow O) (x : Int32) : ps_sC bG (d + 5) 917 [.ref 0, .int x] O (some (.int (ps_order O x))) O := by
  intro μ h
  have n12 : O.S.n ≤ 12 := hO.1.2.2.2.2.2.2.1
  obtain ⟨μ1, a1, a2, a3, a4, a5⟩ := w507 d hO.1 h.1
  have hlen : (ps_ord O.S).1.length ≤ 12 := Nat.le_trans (ps_od_len _ _ _ _) (by rw [List.length_nil]; omega)
  rw [e917, q917_0, a1, am_bV_ret, q917_38, q917_39, q917_39, a3, am_rng x (by omega), ps_order]
  refine ⟨μ1, ?_, a2.I h, a2.k⟩
  by_cases hx : am_ix x < (ps_ord O.S).1.length
  · rw [if_pos hx, am_gbI (by omega), List.getElem?_eq_getElem hx, a5 _ _ (List.getElem?_eq_getElem hx)]
    rfl
  · rw [if_neg hx, List.getElem?_eq_none (by omega)]
    rfl
theorem C_ring (d : Nat) (O : ps_O) (hO : ps_Ow O) : ps_sC bG (d + 5) 918 [.ref 0] O (some (.int (nI (ps_ord O.S).2))) O := by
  intro μ h
  obtain ⟨μ1, a1, a2, a3, a4, a5⟩ := w507 d hO.1 h.1
  rw [e918, q918_0, a1, am_bV_ret, a4]
  exact ⟨μ1, rfl, a2.I h, a2.k⟩
section Ops24b
variable {S : ps_S}
theorem ps_sel_kn {kn w : Nat} (h : kn < 2 ^ w) : ps_sel (fun k => kn.testBit k) w = kn := by
  apply Nat.eq_of_testBit_eq
  intro i
  rw [ps_sel_bit]
  by_cases hi : i < w
  · rw [decide_eq_true hi, Bool.true_and]
  · rw [decide_eq_false hi, Bool.false_and, Nat.testBit_lt_two_pow (Nat.lt_of_lt_of_le h (Nat.pow_le_pow_right (by omega) (by omega)))]
theorem v1064 (d : Nat) (hW : ps_Wf S) {μ : am_Mem} (hR : ps_Rm 57 S μ) : am_call (d + 1) 1064 [.ref 56] μ = am_ret (some (.int (nI S.kn))) μ := by
  have w16 : S.w ≤ 16 := hW.1
  have r1 : μ 57 0 = nI S.w := hR.1
  have lp : ∀ j k, k + j = S.w → am_ev (am_call d) 1064 4 [.ref 56, .int (nI (ps_sel (fun k => S.kn.testBit k) k)), .int (nI k)] [] μ = am_ret (some (.int (nI (ps_sel (fun k => S.kn.testBit k) S.w)))) μ := by
    intro j
    induction j with
    | zero =>
      intro k hk
      have hk : k = S.w := hk
      subst hk
      rw [q1064_4, r1, if_pos (by rw [am_leN (by omega) (by omega)]; omega), q1064_34]
    | succ j ih =>
      intro k hk
      have hb : (S.kn.testBit k).toNat ≤ 1 := by cases S.kn.testBit k <;> decide
      have hp : 2 ^ k < 2 ^ 16 := Nat.pow_lt_pow_right (by omega) (by omega)
      have hm : (S.kn.testBit k).toNat * 2 ^ k ≤ 1 * 2 ^ k := Nat.mul_le_mul_right _ hb
      have he : (S.kn.testBit k).toNat * 2 ^ k = if S.kn.testBit k = true then 2 ^ k else 0 := by cases S.kn.testBit k <;> simp
      rw [q1064_4, r1, if_neg (by rw [am_leN (by omega) (by omega)]; omega), show am_c 26 = nI 26 from rfl, nI_add, am_ixN (by omega), am_gbI (by omega), show μ 57 (26 + k) = nI (S.kn.testBit k).toNat from hR.2.2.1 k (by omega), am_shl (by omega) (by omega), am_or, am_cN, nI_add, he]
      exact ih (k + 1) (by omega)
  have := lp S.w 0 (by omega)
  rw [e1064, q1064_0, show am_ev (am_call d) 1064 4 [.ref 56, .int (am_c 0), .int (am_c 0)] [] μ = _ from this, ps_sel_kn hW.2.2.1]
theorem v1065_21 (d : Nat) (hW : ps_Wf S) {μ : am_Mem} (hR : ps_Rm 57 S μ) (h6 : ∀ j, j < S.n → μ 66 j = nI (ps_us S j)) (x1 : Int32) {h l : Nat} (hl : l < 65536) : ∀ k e, e + k = S.n → am_ev (am_call (d + 1)) 1065 21 [.ref 56, .int x1, .int (nI h), .int (nI l), .int (nI e)] [] μ = match ps_fr S h l k e with
    | none => am_ret (some (.int (nI l))) μ
    | some e' => am_ev (am_call (d + 1)) 1065 61 [.ref 56, .int x1, .int (nI h), .int (nI l), .int (nI e')] [] μ := by
  have n12 : S.n ≤ 12 := hW.2.2.2.2.2.2.1
  have r8 : μ 57 1 = nI S.n := hR.2.2.2.2.2.2.2.1
  intro k
  induction k with
  | zero =>
    intro e he
    rw [q1065_21, r8, if_pos (by rw [am_leN (by omega) (by omega)]; omega), q1065_109]
    rfl
  | succ k ih =>
    intro e he
    obtain ⟨g1, g2, g3, g4, g5, g6, g7, g8, g9⟩ := hW.e (e := e) (by omega)
    have hd : ps_dif (ps_us S e) h < 2 ^ 16 := ps_dif_lt g9
    rw [q1065_21, r8, if_neg (by rw [am_leN (by omega) (by omega)]; omega), show am_c 1 = nI 1 from rfl, am_bit (by omega) (by omega), am_ixN (by omega), am_gbI (by omega), h6 e (by omega), am_andn, q1065_55, show am_c 1 = nI 1 from rfl, nI_add, ps_fr, ps_rdy]
    cases hb : l.testBit e with
    | false =>
      rw [if_pos (by decide), Bool.false_and, if_neg (by decide)]
      exact ih (e + 1) (by omega)
    | true =>
      rw [if_neg (by decide), Bool.true_and]
      by_cases hc : ps_dif (ps_us S e) h = 0
      · rw [if_pos (by rw [am_eq0 (by omega)]; exact hc), if_pos (decide_eq_true hc)]
      · rw [if_neg (by rw [am_eq0 (by omega)]; exact hc), if_neg (by simpa using hc)]
        exact ih (e + 1) (by omega)
theorem v1065_o (d : Nat) (hW : ps_Wf S) (x1 : Int32) : ∀ j h l (r : List Nat) (μ : am_Mem), ps_Rm 57 S μ → (∀ j, j < S.n → μ 66 j = nI (ps_us S j)) → r.length + ps_lc S l ≤ S.n → ps_lc S l ≤ j → h < 65536 → l < 65536 → μ 56 28 = nI r.length → ps_Ro 68 r μ → ∃ μ', am_ev (am_call (d + 1)) 1065 21 [.ref 56, .int x1, .int (nI h), .int (nI l), .int (am_c 0)] [] μ = am_ret (some (.int (nI (ps_od S j h l r).2))) μ' ∧ (∀ K, K ≠ 56 → K ≠ 68 → μ' K = μ K) ∧ (∀ i, i ≠ 28 → μ' 56 i = μ 56 i) ∧ μ' 56 28 = nI (ps_od S j h l r).1.length ∧ ps_Ro 68 (ps_od S j h l r).1 μ' := by
  have n12 : S.n ≤ 12 := hW.2.2.2.2.2.2.1
  intro j
  induction j with
  | zero =>
    intro h l r μ hR h6 hrl hlc hh hl h28 hro
    rw [show am_c 0 = nI 0 from rfl, v1065_21 d hW hR h6 x1 hl S.n 0 (by omega), ps_lc_0 (by omega) S.n 0 (by omega)]
    exact ⟨μ, rfl, fun _ _ _ => rfl, fun _ _ => rfl, h28, hro⟩
  | succ j ih =>
    intro h l r μ hR h6 hrl hlc hh hl h28 hro
    rw [show am_c 0 = nI 0 from rfl, v1065_21 d hW hR h6 x1 hl S.n 0 (by omega), ps_od]
    cases hf : ps_fr S h l S.n 0 with
    | none => exact ⟨μ, rfl, fun _ _ _ => rfl, fun _ _ => rfl, h28, hro⟩
    | some e =>
      obtain ⟨f1, f2, f3⟩ := ps_fr_some hf
      obtain ⟨g1, g2, g3, g4, g5, g6, g7, g8, g9⟩ := hW.e (e := e) (by omega)
      have hb : l.testBit e = true := (Bool.and_eq_true_iff.mp f3).1
      have hms := ps_lc_lt (S := S) (l := l) (e := e) (by omega) hb
      have ph : 2 ^ S.hd e < 2 ^ 16 := Nat.pow_lt_pow_right (by omega) (by omega)
      have hd : ps_dif l (2 ^ e) < 2 ^ 16 := ps_dif_lt hl
      have hor : h ||| 2 ^ S.hd e < 2 ^ 16 := Nat.or_lt_two_pow hh ph
      show ∃ μ', am_ev (am_call (d + 1)) 1065 61 [.ref 56, .int x1, .int (nI h), .int (nI l), .int (nI e)] [] μ = am_ret (some (.int (nI (ps_od S j (h ||| 2 ^ S.hd e) (ps_dif l (2 ^ e)) (r ++ [e])).2))) μ' ∧ (∀ K, K ≠ 56 → K ≠ 68 → μ' K = μ K) ∧ (∀ i, i ≠ 28 → μ' 56 i = μ 56 i) ∧ μ' 56 28 = nI (ps_od S j (h ||| 2 ^ S.hd e) (ps_dif l (2 ^ e)) (r ++ [e])).1.length ∧ ps_Ro 68 (ps_od S j (h ||| 2 ^ S.hd e) (ps_dif l (2 ^ e)) (r ++ [e])).1 μ'
      rw [q1065_61, h28, am_ixN (by omega), am_gbI (by omega), am_upK (by omega), h28, show am_c 0 = nI 0 from rfl, m1005 d (by omega), am_bI_ret, am_upK (by omega), am_upK (by omega), show μ 57 (45 + 5 * e + 0) = nI (S.hd e) from hR.2.2.2.2.2.2.2.2.1 e (by omega), show am_c 1 = nI 1 from rfl, am_shl1 (by omega), am_shl1 (by omega), am_or, am_andn, nI_add]
      obtain ⟨μ', b1, b2, b3, b4⟩ := ih (h ||| 2 ^ S.hd e) (ps_dif l (2 ^ e)) (r ++ [e]) (am_up (am_up μ 68 r.length (nI e)) 56 28 (nI (r.length + 1))) (hR.off (by rw [am_up_ne (by omega), am_up_ne (by omega)])) (fun j hj => by rw [am_upK (by omega), am_upK (by omega)]; exact h6 j hj) (by rw [List.length_append, List.length_singleton]; omega) (by omega) hor hd (by rw [am_upS, List.length_append]; rfl) ((hro.add e).off (by rw [am_up_ne (by omega)]))
      rw [show am_ev (am_call (d + 1)) 1065 21 [.ref 56, .int x1, .int (nI (h ||| 2 ^ S.hd e)), .int (nI (ps_dif l (2 ^ e))), .int (nI 0)] [] (am_up (am_up μ 68 r.length (nI e)) 56 28 (nI (r.length + 1))) = _ from b1]
      exact ⟨μ', rfl, fun K h1 h2 => by rw [b2 K h1 h2, am_up_ne h1, am_up_ne h2], fun i hi => by rw [b3 i hi, am_upI hi, am_upK (by omega)], b4⟩
theorem ps_lc_le (S : ps_S) (l : Nat) : ps_lc S l ≤ S.n := ps_cnt_le _ _
theorem v1065 (d : Nat) (hW : ps_Wf S) {μ : am_Mem} (hR : ps_Rm 57 S μ) (h6 : ∀ j, j < S.n → μ 66 j = nI (ps_us S j)) {h : Nat} (hh : h < 65536) : ∃ μ', am_call (d + 2) 1065 [.ref 56, .int (nI h)] μ = am_ret (some (.int (nI (ps_od S S.n h (2 ^ S.n - 1) []).2))) μ' ∧ (∀ K, K ≠ 56 → K ≠ 68 → μ' K = μ K) ∧ (∀ i, i ≠ 28 → μ' 56 i = μ 56 i) ∧ μ' 56 28 = nI (ps_od S S.n h (2 ^ S.n - 1) []).1.length ∧ ps_Ro 68 (ps_od S S.n h (2 ^ S.n - 1) []).1 μ' := by
  have n12 : S.n ≤ 12 := hW.2.2.2.2.2.2.1
  have p12 : 2 ^ S.n ≤ 2 ^ 12 := Nat.pow_le_pow_right (by omega) n12
  have p0 : 1 ≤ 2 ^ S.n := Nat.one_le_two_pow
  have r8 : μ 57 1 = nI S.n := hR.2.2.2.2.2.2.2.1
  rw [e1065, q1065_0, r8, show am_c 1 = nI 1 from rfl, am_shl1 (by omega), pk_sub p0]
  obtain ⟨μ', b1, b2, b3, b4⟩ := v1065_o d hW (nI h) S.n h (2 ^ S.n - 1) [] (am_up μ 56 28 (am_c 0)) (hR.off (by rw [am_up_ne (by omega)])) (fun j hj => by rw [am_upK (by omega)]; exact h6 j hj) (by rw [List.length_nil, Nat.zero_add]; exact ps_lc_le S _) (ps_lc_le S _) hh (by omega) (by rw [am_upS]; rfl) (fun i e hi => by simp at hi)
  rw [b1]
  exact ⟨μ', rfl, fun K h1 h2 => by rw [b2 K h1 h2, am_up_ne h1], fun i hi => by rw [b3 i hi, am_upI hi], b4⟩
end Ops24b
theorem M_ring (d : Nat) (O : ps_O) (hO : ps_Ow O) : ps_sM (d + 6) 1067 [.ref 56] O (some (.int (nI (ps_ord O.S).2))) O := by
  intro μ h
  have hW := hO.1
  obtain ⟨μ1, a1, a2, a3⟩ := v1059 d hW hO.2.1 h.1 h.2.1
  have s1 : ps_scM μ μ1 := ps_scM.of a2 rfl
  obtain ⟨μ2, b1, b2, b3, b4, b5⟩ := v1065 (d + 3) hW (s1.R h.1) (fun j hj => (a3 j hj).1) (ps_kn_lt hW)
  have sc : ps_scM μ μ2 := s1.tr ⟨fun K hK => b2 K (by omega) (by omega), fun i hi => b3 i (by omega)⟩
  rw [e1067, q1067_0, a1, am_bV_ret, v1064 (d + 4) hW (s1.R h.1), am_bI_ret, b1, am_bI_ret]
  exact ⟨μ2, rfl, sc.I h, sc.k⟩
theorem M_order (d : Nat) (O : ps_O) (hO : ps_Ow O) (x : Int32) : ps_sM (d + 6) 1066 [.ref 56, .int x] O (some (.int (ps_order O x))) O := by
  intro μ h
  have hW := hO.1
  have n12 : O.S.n ≤ 12 := hO.1.2.2.2.2.2.2.1
  obtain ⟨μ1, a1, a2, a3⟩ := v1059 d hW hO.2.1 h.1 h.2.1
  have s1 : ps_scM μ μ1 := ps_scM.of a2 rfl
  obtain ⟨μ2, b1, b2, b3, b4, b5⟩ := v1065 (d + 3) hW (s1.R h.1) (fun j hj => (a3 j hj).1) (ps_kn_lt hW)
  have sc : ps_scM μ μ2 := s1.tr ⟨fun K hK => b2 K (by omega) (by omega), fun i hi => b3 i (by omega)⟩
  have hlen : (ps_ord O.S).1.length ≤ 12 := Nat.le_trans (ps_od_len _ _ _ _) (by rw [List.length_nil]; omega)
  have b4 : μ2 56 28 = nI (ps_ord O.S).1.length := b4
  have b5 : ps_Ro 68 (ps_ord O.S).1 μ2 := b5
  rw [e1066, q1066_0, a1, am_bV_ret, v1064 (d + 4) hW (s1.R h.1), am_bI_ret, b1, am_bI_ret, b4, show am_c 0 = nI 0 from rfl, show am_c 1 = nI 1 from rfl, m1001n (d + 4) x (by omega), am_bI_ret, q1066_36, q1066_37, q1066_37, ps_order]
  refine ⟨μ2, ?_, sc.I h, sc.k⟩
  by_cases hx : am_ix x < (ps_ord O.S).1.length
  · rw [decide_eq_true hx, if_neg (by decide), am_gbI (by omega), List.getElem?_eq_getElem hx, b5 _ _ (List.getElem?_eq_getElem hx)]
    rfl
  · rw [decide_eq_false hx, if_pos (by decide), List.getElem?_eq_none (by omega)]
    rfl
