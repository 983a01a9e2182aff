variable {bG : Nat}
/-! fixes, at, book -/
theorem ps_Ic.offl {O : ps_O} {l : List Nat} {μ μ' : am_Mem} (h : ps_Ic bG O μ) (ho : ps_off l μ μ') (hl : l.all (fun K => !ps_cC.contains K) = true) : ps_Ic bG O μ' := h.off (fun K hK => ho K (fun z => by
  have := List.all_eq_true.mp hl K z
  rw [List.contains_iff_mem.mpr hK] at this
  cases this))
theorem ps_Im.offl {O : ps_O} {l : List Nat} {μ μ' : am_Mem} (h : ps_Im O μ) (ho : ps_off l μ μ') (hl : l.all (fun K => !([56, 57, 58, 59, 63] : List Nat).contains K) = true) : ps_Im O μ' := h.off (fun K hK => ho K (fun z => by
  have h1 := List.all_eq_true.mp hl K z
  have h2 : ([56, 57, 58, 59, 63] : List Nat).contains K = true := by rcases hK with rfl | rfl | rfl | rfl | rfl <;> rfl
  rw [h2] at h1
  cases h1))
def ps_fx (S : ps_S) (head set : Nat) : Bool := ps_says (ps_envv S.w S.mk head set) S.law
def ps_fxe (S : ps_S) (e : Nat) : Bool := ps_fx S (S.hd e) (ps_us S e)
section Ops5
variable {S : ps_S} {μ : am_Mem}
theorem w718 (d : Nat) (hR : ps_Rc 1 S μ) (hL : ps_Lc 7 S.law μ) (hW : ps_Wf S) (hl : ps_Lw S.law) {head set : Nat} (hh : head < S.w) (hs : set < 2 ^ S.w) : ∃ μ', am_call (d + 3) 718 [.ref 1, .int (nI head), .int (nI set)] μ = am_ret (some (.int (nI (ps_fx S head set).toNat))) μ' ∧ ps_off [11, 12] μ μ' :=
  c718 d hR.1 hW.1 hR.2.1 (fun k hk => (hW.2.1 k hk).2) hs hh hL hl
theorem w717 (d : Nat) (hR : ps_Rc 1 S μ) (hL : ps_Lc 7 S.law μ) (hW : ps_Wf S) (hl : ps_Lw S.law) {e : Nat} (he : e < S.n) : ∃ μ', am_call (d + 4) 717 [.ref 1, .int (nI e)] μ = am_ret (some (.int (nI (ps_fxe S e).toNat))) μ' ∧ ps_off [11, 12] μ μ' := by
  obtain ⟨a1, a2, a3, a4, a5, a6, a7, -, -⟩ := hW.e he
  obtain ⟨r1, r2, r3, r4, r5, r6, r7, r8, r9, r10, r11, r12, r13⟩ := hR
  exact c717 d r1 hW.1 r2 (fun k hk => (hW.2.1 k hk).2) hL hl a3 (r9 e he) a4 (r10 e he) a6 (fun i hi => r11 e i he hi) a7
theorem v1043 (d : Nat) (hR : ps_Rm 57 S μ) (hL : ps_Lm 57 S.law μ) (hW : ps_Wf S) (hl : ps_Lw S.law) {head set : Nat} (hh : head < S.w) (hs : set < 2 ^ S.w) : ∃ μ', am_call (d + 3) 1043 [.ref 56, .int (nI head), .int (nI set)] μ = am_ret (some (.int (nI (ps_fx S head set).toNat))) μ' ∧ ps_off [64, 65] μ μ' :=
  m1043 d hR.1 hW.1 hR.2.1 (fun k hk => (hW.2.1 k hk).2) hs hh hL hl
theorem v1045 (d : Nat) (hR : ps_Rm 57 S μ) (hL : ps_Lm 57 S.law μ) (hW : ps_Wf S) (hl : ps_Lw S.law) {e : Nat} (he : e < S.n) : ∃ μ', am_call (d + 4) 1045 [.ref 56, .int (nI e)] μ = am_ret (some (.int (nI (ps_fxe S e).toNat))) μ' ∧ ps_off [64, 65] μ μ' := by
  obtain ⟨a1, a2, a3, a4, a5, a6, a7, -, -⟩ := hW.e he
  obtain ⟨r1, r2, r3, r4, r5, r6, r7, r8, r9, r10, r11, r12, r13⟩ := hR
  exact m1045 d r1 hW.1 r2 (fun k hk => (hW.2.1 k hk).2) hL hl a3 (r9 e he) a4 (r10 e he) a6 (fun i hi => r11 e i he hi) a7
theorem w704 (d : Nat) (hR : ps_Rc 1 S μ) (hW : ps_Wf S) (x : Int32) : am_call (d + 1) 704 [.ref 1, .int x] μ = am_ret (some (.int (nI (decide (am_ix x < 2 ^ S.w)).toNat))) μ := by
  have h16 : S.w ≤ 16 := hW.1
  have r1 : μ 1 4 = nI S.w := hR.1
  have hx := am_ix_lt x
  have e := am_usN (n := am_ix x) (k := S.w) hx (by omega)
  rw [am_nIx] at e
  rw [e704, q704_0, r1, show ((Int32.toUInt32 x) >>> ((Int32.toUInt32 (nI S.w)) &&& Int32.toUInt32 31)).toInt32 = _ from e, q704_13, q704_14, q704_14, am_gbt0, am_gbt1]
  have hp : 0 < 2 ^ S.w := Nat.two_pow_pos _
  by_cases hc : am_ix x < 2 ^ S.w
  · rw [Nat.div_eq_of_lt hc, if_pos (by decide), decide_eq_true hc]; rfl
  · have h0 : ¬ am_ix x / 2 ^ S.w = 0 := fun z => hc (Nat.lt_of_div_eq_zero hp z)
    have hne : ¬ nI (am_ix x / 2 ^ S.w) = 0 := fun z => by
      have e2 := am_ixN (a := am_ix x / 2 ^ S.w) (Nat.lt_of_le_of_lt (Nat.div_le_self _ _) hx)
      rw [z] at e2
      exact h0 e2.symm
    rw [if_neg hne, decide_eq_false hc]; rfl
end Ops5
def ps_fixes (O : ps_O) (x y : Int32) : Int32 := if am_ix x < O.S.w ∧ am_ix y < 2 ^ O.S.w ∧ am_ix y ≠ 0 ∧ (am_ix y).testBit (am_ix x) = false then nI (ps_fx O.S (am_ix x) (am_ix y)).toNat else am_c (-1)
theorem C_fixes (d : Nat) (O : ps_O) (hO : ps_Ow O) (x y : Int32) : ps_sC bG (d + 4) 914 [.ref 0, .int x, .int y] O (some (.int (ps_fixes O x y))) O := by
  intro μ h
  have hR := h.1
  have hW := hO.1
  have h16 : O.S.w ≤ 16 := hW.1
  have hk2 : 2 ^ O.S.w ≤ 2 ^ 16 := Nat.pow_le_pow_right (by omega) h16
  rw [e914, q914_0, c702 (d + 2) hR.1 h16, am_bI_ret, w704 (d + 2) hR hW, am_bI_ret, q914_34, ps_fixes]
  by_cases hx : am_ix x < O.S.w
  · rw [decide_eq_true hx, if_neg (by decide)]
    by_cases hy : am_ix y < 2 ^ O.S.w
    · rw [decide_eq_true hy, if_neg (by decide)]
      obtain ⟨a, ha, rfl⟩ : ∃ k, k < O.S.w ∧ x = nI k := ⟨am_ix x, hx, (am_nIx x).symm⟩
      obtain ⟨b, hb, rfl⟩ : ∃ k, k < 2 ^ O.S.w ∧ y = nI k := ⟨am_ix y, hy, (am_nIx y).symm⟩
      rw [am_ixN (by omega), am_ixN (by omega), show am_c 1 = nI 1 from rfl, am_bit (by omega) (by omega)]
      by_cases h0 : b = 0
      · rw [if_pos (by rw [h0]; rfl), if_neg (fun z => z.2.2.1 h0)]
        exact ⟨μ, rfl, h, ps_kC.rf⟩
      · rw [if_neg (by rw [am_eq0 (by omega)]; exact h0)]
        cases ht : b.testBit a with
        | true =>
          rw [if_neg (by decide), if_neg (fun z => by cases z.2.2.2)]
          exact ⟨μ, rfl, h, ps_kC.rf⟩
        | false =>
          obtain ⟨μ', g1, g2⟩ := w718 d hR h.2.1 hW hO.2.1 ha hb
          rw [if_pos (by decide), if_pos ⟨ha, hb, h0, rfl⟩, q914_36, g1, am_bI_ret]
          refine ⟨μ', ?_, h.offl g2 (by decide), ps_kC.off g2 (by decide)⟩
          cases ps_fx O.S a b
          · rw [if_pos (by decide), q914_52, q914_53]; rfl
          · rw [if_neg (by decide), q914_53]; rfl
    · rw [decide_eq_false hy, if_pos (by decide), if_neg (fun z => hy z.2.1)]
      exact ⟨μ, rfl, h, ps_kC.rf⟩
  · rw [decide_eq_false hx, if_pos (by decide), if_neg (fun z => hx z.1)]
    exact ⟨μ, rfl, h, ps_kC.rf⟩
theorem M_fixes (d : Nat) (O : ps_O) (hO : ps_Ow O) (x y : Int32) : ps_sM (d + 4) 1047 [.ref 56, .int x, .int y] O (some (.int (ps_fixes O x y))) O := by
  intro μ h
  have hR := h.1
  have hW := hO.1
  have h16 : O.S.w ≤ 16 := hW.1
  have hk2 : 2 ^ O.S.w ≤ 2 ^ 16 := Nat.pow_le_pow_right (by omega) h16
  rw [e1047, q1047_0, m1002 (d + 1) hR.1 h16, am_bI_ret, m1004 (d + 1) hR.1 h16, am_bI_ret, q1047_29, ps_fixes]
  by_cases hx : am_ix x < O.S.w
  · rw [decide_eq_true hx, if_neg (by decide)]
    by_cases h0 : y = 0
    · rw [if_pos h0, if_neg (fun z => z.2.2.1 (by rw [h0]; rfl))]
      exact ⟨μ, rfl, h, ps_kM.rf⟩
    rw [if_neg h0]
    by_cases hy : am_ix y < 2 ^ O.S.w
    · rw [decide_eq_true hy, if_neg (by decide)]
      obtain ⟨a, ha, rfl⟩ : ∃ k, k < O.S.w ∧ x = nI k := ⟨am_ix x, hx, (am_nIx x).symm⟩
      obtain ⟨b, hb, rfl⟩ : ∃ k, k < 2 ^ O.S.w ∧ y = nI k := ⟨am_ix y, hy, (am_nIx y).symm⟩
      have hb0 : b ≠ 0 := fun z => h0 (by rw [z]; rfl)
      rw [am_ixN (by omega), am_ixN (by omega), show am_c 1 = nI 1 from rfl, am_bit (by omega) (by omega)]
      cases ht : b.testBit a with
      | true =>
        rw [if_pos (by decide), if_neg (fun z => by cases z.2.2.2)]
        exact ⟨μ, rfl, h, ps_kM.rf⟩
      | false =>
        obtain ⟨μ', g1, g2⟩ := v1043 d hR h.2.1 hW hO.2.1 ha hb
        rw [if_neg (by decide), if_pos ⟨ha, hb, hb0, rfl⟩, q1047_31, g1, am_bI_ret]
        refine ⟨μ', ?_, h.offl g2 (by decide), ps_kM.off g2 (by decide)⟩
        cases ps_fx O.S a b
        · rw [if_pos (by decide), q1047_44, q1047_45]; rfl
        · rw [if_neg (by decide), q1047_45]; rfl
    · rw [decide_eq_false hy, if_pos (by decide), if_neg (fun z => hy z.2.1)]
      exact ⟨μ, rfl, h, ps_kM.rf⟩
  · rw [decide_eq_false hx, if_pos (by decide), if_neg (fun z => hx z.1)]
    exact ⟨μ, rfl, h, ps_kM.rf⟩
