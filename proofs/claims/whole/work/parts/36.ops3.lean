variable {bG : Nat}
/-! look, fault, end, book -/
theorem am_ret_ite {P : Prop} (dP : Decidable P) (a b : Int32) (μ : am_Mem) : (@ite _ P dP (am_ret (some (.int a)) μ) (am_ret (some (.int b)) μ)) = am_ret (some (.int (@ite _ P dP a b))) μ := by
  by_cases h : P
  · rw [if_pos h, if_pos h]
  · rw [if_neg h, if_neg h]
def ps_look (O : ps_O) (x : Int32) : Int32 := if x = am_c 0 then nI O.S.w else if x = am_c 1 then nI O.S.n else if x = am_c 2 then nI O.S.lim else if x = am_c 3 then nI O.S.chg else if x = am_c 4 then nI O.S.ed else if x = am_c 5 then nI O.S.bn else if x = am_c 6 then O.S.sta else if x = am_c 7 then nI O.S.law.length else if x = am_c 8 then nI O.past.length else am_c (-1)
theorem C_look (d : Nat) (O : ps_O) (x : Int32) : ps_sC bG (d + 1) 927 [.ref 0, .int x] O (some (.int (ps_look O x))) O := by
  intro μ h
  obtain ⟨r1, r2, r3, r4, r5, r6, r7, r8, r9, r10, r11, r12, r13⟩ := id h.1
  refine ⟨μ, ?_, h, ps_kC.rf⟩
  rw [e927, q927_0, q927_52, q927_60, q927_68, q927_76, q927_84, q927_92, q927_100, q927_108, q927_119, q927_127, r1, r8, r4, r5, r6, r12, r7, h.2.1.1, h.2.2.2.2.1.1]
  simp only [am_ret_ite]
  rfl
theorem am_le_ix {x : Int32} {n : Nat} (hn : n < 2147483648) (h : am_ix x ≤ n) : ∃ k, k ≤ n ∧ x = nI k := ⟨am_ix x, h, (am_nIx x).symm⟩
theorem M_look (d : Nat) (O : ps_O) (x : Int32) : ps_sM (d + 2) 1079 [.ref 56, .int x] O (some (.int (ps_look O x))) O := by
  intro μ h
  obtain ⟨r1, r2, r3, r4, r5, r6, r7, r8, r9, r10, r11, r12, r13⟩ := id h.1
  refine ⟨μ, ?_, h, ps_kM.rf⟩
  rw [e1079, q1079_0, am_cN, am_cN, m1001c d x (by omega) (by omega), am_bI_ret]
  by_cases hx : 0 ≤ am_ix x ∧ am_ix x ≤ 6
  · rw [decide_eq_true hx, if_neg (by decide), am_gbI (by omega)]
    obtain ⟨k, hk, rfl⟩ := am_le_ix (by omega) hx.2
    rw [am_ixN (by omega)]
    rcases (show k = 0 ∨ k = 1 ∨ k = 2 ∨ k = 3 ∨ k = 4 ∨ k = 5 ∨ k = 6 by omega) with rfl | rfl | rfl | rfl | rfl | rfl | rfl
    · rw [r1]; rfl
    · rw [r8]; rfl
    · rw [r4]; rfl
    · rw [r5]; rfl
    · rw [r6]; rfl
    · rw [r12]; rfl
    · rw [r7]; rfl
  · have ne : ∀ k, k ≤ 6 → ¬ x = nI k := fun k hk e => hx (by rw [e, am_ixN (by omega)]; omega)
    rw [decide_eq_false hx, if_pos (by decide), q1079_17, q1079_34, q1079_47, q1079_48, q1079_48, q1079_48, h.2.1.1, h.2.2.2.2.1.1]
    simp only [am_ret_ite]
    rw [ps_look, if_neg (show ¬ x = am_c 0 from ne 0 (by omega)), if_neg (show ¬ x = am_c 1 from ne 1 (by omega)), if_neg (show ¬ x = am_c 2 from ne 2 (by omega)), if_neg (show ¬ x = am_c 3 from ne 3 (by omega)), if_neg (show ¬ x = am_c 4 from ne 4 (by omega)), if_neg (show ¬ x = am_c 5 from ne 5 (by omega)), if_neg (show ¬ x = am_c 6 from ne 6 (by omega))]
def ps_fault (O : ps_O) (x : Int32) : Int32 := if x = am_c 0 then O.fk else if x = am_c 1 then O.fp else am_c (-1)
theorem C_fault (d : Nat) (O : ps_O) (x : Int32) : ps_sC bG (d + 1) 910 [.ref 0, .int x] O (some (.int (ps_fault O x))) O := by
  intro μ h
  refine ⟨μ, ?_, h, ps_kC.rf⟩
  rw [e910, q910_0, q910_28, q910_36, q910_44, h.2.2.2.1.1, h.2.2.2.1.2]
  simp only [am_ret_ite]
  rfl
theorem M_fault (d : Nat) (O : ps_O) (x : Int32) : ps_sM (d + 1) 1039 [.ref 56, .int x] O (some (.int (ps_fault O x))) O := by
  intro μ h
  refine ⟨μ, ?_, h, ps_kM.rf⟩
  rw [e1039, q1039_0, q1039_11, q1039_23, q1039_24, q1039_24, q1039_24, h.2.2.2.1.1, h.2.2.2.1.2]
  simp only [am_ret_ite]
  rfl
def ps_O.tape (O : ps_O) (n : Nat) : ps_O := (O.S, n, O.tp, O.fk, O.fp, O.past, O.img)
def ps_end (O : ps_O) (x : Int32) : Int32 × ps_O := if am_ix x ≤ O.tl then (nI 1, O.tape (am_ix x)) else (nI 0, O)
theorem C_end (d : Nat) (O : ps_O) (hO : ps_Ow O) (x : Int32) : ps_sC bG (d + 1) 908 [.ref 0, .int x] O (some (.int (ps_end O x).1)) (ps_end O x).2 := by
  intro μ h
  have ht : O.tl ≤ 400 := hO.2.2.1
  obtain ⟨i1, i2, ⟨i3, i3'⟩, i4, i5, i9, i10, i11⟩ := id h
  have e := am_rngB x (a := 0) (b := O.tl) (by omega) (by omega) (am_ret (some (.int (am_c 0))) μ) (am_ret (some (.int (am_c 1))) (am_up μ 0 4 x))
  rw [e908, q908_0, i3, q908_12, q908_14, show (if x < (0 : Int32) then am_ret (some (.int (am_c 0))) μ else if x ≤ nI O.tl then am_ret (some (.int (am_c 1))) (am_up μ 0 4 x) else am_ret (some (.int (am_c 0))) μ) = _ from e]
  by_cases hc : am_ix x ≤ O.tl
  · rw [if_pos ⟨by omega, hc⟩, ps_end, if_pos hc]
    have e0 : ∀ i, i ≠ 4 → am_up μ 0 4 x 0 i = μ 0 i := fun i hi => am_upI hi
    have eK : ∀ K, K ≠ 0 → am_up μ 0 4 x K = μ K := fun K hK => am_up_ne hK
    refine ⟨_, rfl, ⟨i1.off (fun k hk => eK _ (by omega)), i2.off (eK _ (by omega)) (eK _ (by omega)) (eK _ (by omega)) (eK _ (by omega)), ⟨by rw [am_upS, ← am_nIx x, am_ixN (am_ix_lt x)]; rfl, fun i hi => ?_⟩, ?_, ?_, fun hn => by rw [e0 2 (by omega)]; exact i9 hn, fun S' hS => ?_, ?_⟩, ps_kC.up ps_kC.rf (by omega)⟩
    · have hi : i < am_ix x := hi
      rw [eK 25 (by omega)]
      exact i3' i (by omega)
    · rw [eK 26 (by omega)]; exact i4
    · rw [eK 37 (by omega), eK 38 (by omega), eK 39 (by omega), eK 40 (by omega)]; exact i5
    · obtain ⟨a1, a2, a3⟩ := i10 S' hS
      exact ⟨by rw [e0 2 (by omega)]; exact a1, a2.off (fun k hk => eK _ (by omega)), a3.off (eK _ (by omega)) (eK _ (by omega)) (eK _ (by omega)) (eK _ (by omega))⟩
    · rw [eK 48 (by omega), eK 55 (by omega)]; exact i11
  · rw [if_neg (fun z => hc z.2), ps_end, if_neg hc]
    exact ⟨μ, rfl, h, ps_kC.rf⟩
theorem M_end (d : Nat) (O : ps_O) (hO : ps_Ow O) (x : Int32) : ps_sM (d + 2) 1019 [.ref 56, .int x] O (some (.int (ps_end O x).1)) (ps_end O x).2 := by
  intro μ h
  have ht : O.tl ≤ 400 := hO.2.2.1
  obtain ⟨i1, i2, ⟨i3, i3'⟩, i4, i5, i9, i10⟩ := id h
  rw [e1019, q1019_0, i3, am_cN, m1001c d x (by omega) (by omega), am_bI_ret]
  by_cases hc : am_ix x ≤ O.tl
  · rw [decide_eq_true ⟨Nat.zero_le _, hc⟩, if_neg (by decide), q1019_14, ps_end, if_pos hc]
    have e0 : ∀ i, i ≠ 13 → am_up μ 56 13 x 56 i = μ 56 i := fun i hi => am_upI hi
    have eK : ∀ K, K ≠ 56 → am_up μ 56 13 x K = μ K := fun K hK => am_up_ne hK
    refine ⟨_, rfl, ⟨i1.off (eK _ (by omega)), i2.off (eK _ (by omega)), ⟨by rw [am_upS, ← am_nIx x, am_ixN (am_ix_lt x)]; rfl, fun i hi => ?_⟩, ?_, ?_, fun hn => by rw [e0 4 (by omega)]; exact i9 hn, fun S' hS => ?_⟩, ps_kM.up ps_kM.rf (by omega) (by omega)⟩
    · have hi : i < am_ix x := hi
      rw [eK 63 (by omega)]
      exact i3' i (by omega)
    · rw [e0 20 (by omega), e0 22 (by omega)]; exact i4
    · rw [e0 3 (by omega), eK 59 (by omega)]; exact i5
    · obtain ⟨a1, a2, a3⟩ := i10 S' hS
      exact ⟨by rw [e0 4 (by omega)]; exact a1, a2.off (eK _ (by omega)), a3.off (eK _ (by omega))⟩
  · rw [decide_eq_false (fun z => hc z.2), if_pos (by decide), ps_end, if_neg hc]
    exact ⟨μ, rfl, h, ps_kM.rf⟩
