variable {bG : Nat}
/-! of, fixes -/
section Ops4
variable {S : ps_S} {μ : am_Mem}
def ps_alike (S : ps_S) (k : Nat) : Nat := ps_sel (fun o => decide (o ≠ k) && decide (S.mk o = S.mk k)) S.w
theorem w715_4 (C : am_Ct) (hR : ps_Rc 1 S μ) (hW : ps_Wf S) {k : Nat} (hk : k < S.w) : ∀ j i, i + j = S.w → am_ev C 715 4 [.ref 1, .int (nI k), .int (nI (ps_sel (fun o => decide (o ≠ k) && decide (S.mk o = S.mk k)) i)), .int (nI i)] [] μ = am_ret (some (.int (nI (ps_alike S k)))) μ := by
  have h16 : S.w ≤ 16 := hW.1
  have hm := hW.2.1
  have r1 : μ 1 4 = nI S.w := hR.1
  have r2 : ∀ k, k < S.w → μ 2 k = nI (S.mk k) := hR.2.1
  intro j
  induction j with
  | zero =>
    intro i h
    have h : i = S.w := by omega
    rw [q715_4, r1, if_pos (by rw [am_leN (by omega) (by omega)]; omega), q715_44, h]
    rfl
  | succ j ih =>
    intro i h
    have ih := ih (i + 1) (by omega)
    have b1 := hm i (by omega)
    have b2 := hm k hk
    rw [ps_sel] at ih
    rw [q715_4, r1, if_neg (by rw [am_leN (by omega) (by omega)]; omega), am_ixN (by omega), am_gbI (by omega), am_ixN (by omega), am_gbI (by omega), r2 i (by omega), r2 k hk, q715_38, q715_38, am_cN, nI_add, am_shl1 (by omega), am_or]
    by_cases hik : i = k
    · rw [if_pos (by rw [hik])]
      simpa [hik] using ih
    · rw [if_neg (by rw [am_eqN (by omega) (by omega)]; exact hik)]
      by_cases he : S.mk i = S.mk k
      · rw [if_pos (by rw [he])]
        simpa [hik, he] using ih
      · rw [if_neg (by rw [am_eqN (by omega) (by omega)]; exact he)]
        simpa [hik, he] using ih
theorem w715 (d : Nat) (hR : ps_Rc 1 S μ) (hW : ps_Wf S) {k : Nat} (hk : k < S.w) : am_call (d + 1) 715 [.ref 1, .int (nI k)] μ = am_ret (some (.int (nI (ps_alike S k)))) μ := by
  rw [e715, q715_0]
  exact w715_4 _ hR hW hk S.w 0 (by omega)
theorem v1054_91 (C : am_Ct) (hR : ps_Rm 57 S μ) (hW : ps_Wf S) {k : Nat} (hk : k < S.w) (x2 : Int32) : ∀ j i, i + j = S.w → am_ev C 1054 91 [.ref 56, .int (nI k), .int x2, .int (nI (ps_sel (fun o => decide (o ≠ k) && decide (S.mk o = S.mk k)) i)), .int (nI i)] [] μ = am_ret (some (.int (nI (ps_alike S k)))) μ := by
  have h16 : S.w ≤ 16 := hW.1
  have hm := hW.2.1
  have r1 : μ 57 0 = nI S.w := hR.1
  have r2 : ∀ k, k < S.w → μ 57 (10 + k) = nI (S.mk k) := hR.2.1
  intro j
  induction j with
  | zero =>
    intro i h
    have h : i = S.w := by omega
    rw [q1054_91, r1, if_pos (by rw [am_leN (by omega) (by omega)]; omega), q1054_147, h]
    rfl
  | succ j ih =>
    intro i h
    have ih := ih (i + 1) (by omega)
    have b1 := hm i (by omega)
    have b2 := hm k hk
    rw [ps_sel] at ih
    have e0 : ∀ z : Nat, nI z ||| nI 0 = nI (z ||| 0) := fun z => am_or z 0
    rw [q1054_91, r1, if_neg (by rw [am_leN (by omega) (by omega)]; omega), am_cN, nI_add, am_ixN (by omega), am_gbI (by omega), nI_add, am_ixN (by omega), am_gbI (by omega), r2 i (by omega), r2 k hk, q1054_138, q1054_139, q1054_139, show am_c 1 = nI 1 from rfl, show am_c 0 = nI 0 from rfl, nI_add, am_shl1 (by omega), am_or, am_or]
    by_cases hik : i = k
    · rw [if_pos (by rw [hik])]
      simpa [hik] using ih
    · rw [if_neg (by rw [am_eqN (by omega) (by omega)]; exact hik)]
      by_cases he : S.mk i = S.mk k
      · rw [if_pos (by rw [he])]
        simpa [hik, he] using ih
      · rw [if_neg (by rw [am_eqN (by omega) (by omega)]; exact he)]
        simpa [hik, he] using ih
end Ops4
def ps_of (O : ps_O) (x y : Int32) : Int32 := if am_ix x < O.S.w then (if y = am_c 0 then nI (O.S.mk (am_ix x)) else if y = am_c 1 then nI (O.S.kn.testBit (am_ix x)).toNat else if y = am_c 2 then nI (ps_ua O.S (am_ix x) O.S.n) else if y = am_c 3 then ps_led O.S (am_ix x) else if y = am_c 4 then nI (ps_alike O.S (am_ix x)) else am_c (-2)) else am_c (-2)
theorem C_of (d : Nat) (O : ps_O) (hO : ps_Ow O) (x y : Int32) : ps_sC bG (d + 4) 912 [.ref 0, .int x, .int y] O (some (.int (ps_of O x y))) O := by
  intro μ h
  have hR := h.1
  have hW := hO.1
  have h16 : O.S.w ≤ 16 := hW.1
  have hk : O.S.kn < 2 ^ O.S.w := hW.2.2.1
  have hk2 : 2 ^ O.S.w ≤ 2 ^ 16 := Nat.pow_le_pow_right (by omega) h16
  obtain ⟨r1, r2, r3, r4, r5, r6, r7, r8, r9, r10, r11, r12, r13⟩ := id h.1
  refine ⟨μ, ?_, h, ps_kC.rf⟩
  rw [e912, q912_0, c702 (d + 2) r1 h16, am_bI_ret, ps_of]
  by_cases hx : am_ix x < O.S.w
  · rw [decide_eq_true hx, if_neg (by decide), if_pos hx, q912_14, q912_48, q912_58, q912_70, q912_86, q912_95, q912_104]
    obtain ⟨k, hkk, rfl⟩ : ∃ k, k < O.S.w ∧ x = nI k := ⟨am_ix x, hx, (am_nIx x).symm⟩
    rw [am_ixN (by omega), am_gbI (by omega), r8, r3, show am_c 1 = nI 1 from rfl, am_bit (by omega) (by omega), w713 d hR hW (by omega) (Nat.le_refl _), am_bI_ret, w714 d hR hW (by omega), am_bI_ret, w715 (d + 2) hR hW hkk, am_bI_ret, show μ 2 k = nI (O.S.mk k) from r2 k hkk]
    simp only [am_ret_ite]
  · rw [decide_eq_false hx, if_pos (by decide), if_neg hx]
theorem M_of (d : Nat) (O : ps_O) (hO : ps_Ow O) (x y : Int32) : ps_sM (d + 4) 1054 [.ref 56, .int x, .int y] O (some (.int (ps_of O x y))) O := by
  intro μ h
  have hR := h.1
  have hW := hO.1
  have h16 : O.S.w ≤ 16 := hW.1
  obtain ⟨r1, r2, r3, r4, r5, r6, r7, r8, r9, r10, r11, r12, r13⟩ := id h.1
  refine ⟨μ, ?_, h, ps_kM.rf⟩
  rw [e1054, q1054_0, m1002 (d + 1) r1 h16, am_bI_ret, ps_of]
  by_cases hx : am_ix x < O.S.w
  · rw [decide_eq_true hx, if_neg (by decide), if_pos hx, q1054_11, q1054_48, q1054_58, q1054_68, q1054_80, q1054_86, q1054_149]
    obtain ⟨k, hkk, rfl⟩ : ∃ k, k < O.S.w ∧ x = nI k := ⟨am_ix x, hx, (am_nIx x).symm⟩
    have h91 := v1054_91 (am_call (d + 3)) hR hW hkk y O.S.w 0 (by omega)
    have h91 : am_ev (am_call (d + 3)) 1054 91 [.ref 56, .int (nI k), .int y, .int (am_c 0), .int (am_c 0)] [] μ = _ := h91
    rw [am_ixN (show k < 4294967296 by omega), h91, show am_c 10 = nI 10 from rfl, show am_c 26 = nI 26 from rfl, nI_add, nI_add, am_ixN (by omega), am_ixN (by omega), am_gbI (by omega), am_gbI (by omega), r2 k hkk, r3 k hkk, r8, v1046 d hR hW (by omega) (Nat.le_refl _), am_bI_ret, v1053 d hR hW (by omega), am_bI_ret]
    simp only [am_ret_ite]
  · rw [decide_eq_false hx, if_pos (by decide), if_neg hx]
