/-! the model: a set fixes a head -/
theorem m1043_90 (d : Nat) {w head set all : Nat} {mk : Nat → Nat} (hw16 : w ≤ 16) (hm2 : ∀ k, k < w → mk k ≤ 1023) (hs : set < 65536) (hh : head < 16) : ∀ k i (μ : am_Mem), i + k = w → μ 57 0 = nI w → (∀ k, k < w → μ 57 (10 + k) = nI (mk k)) → μ 65 5 = nI (ps_cnt (fun k => !(set ||| 2 ^ head).testBit k && decide (ps_dif (mk k) all = 0)) i) →
    ∃ μ', am_ev (am_call d) 1043 90 [.ref 56, .int (nI head), .int (nI set), .int (nI all), .int (nI i)] [] μ = am_ev (am_call d) 1043 153 [.ref 56, .int (nI head), .int (nI set), .int (nI all), .int (nI w)] [] μ' ∧ ps_off [65] μ μ' ∧ (∀ j, j ≠ 5 → μ' 65 j = μ 65 j) ∧ μ' 65 5 = nI (ps_oth mk all (set ||| 2 ^ head) w)
  | 0, i, μ, h, hw, hm, h5 => by
    have h : i = w := by omega
    subst h
    refine ⟨μ, ?_, ps_off.rf, fun _ _ => rfl, h5⟩
    rw [q1043_90, hw, if_pos (by rw [am_leN (by omega) (by omega)]; exact Nat.le_refl _)]
  | k + 1, i, μ, h, hw, hm, h5 => by
    have hdl : ps_dif (mk i) all < 1024 := ps_dif_lt (n := 10) (by have := hm2 i (by omega); omega)
    have hbit : (set ||| 2 ^ head).testBit i = (set.testBit i || decide (head = i)) := by rw [Nat.testBit_or, Nat.testBit_two_pow]
    have go : ∀ b : Bool, b = (!(set ||| 2 ^ head).testBit i && decide (ps_dif (mk i) all = 0)) → ∃ μ', am_ev (am_call d) 1043 145 [.ref 56, .int (nI head), .int (nI set), .int (nI all), .int (nI i)] [.int (nI b.toNat), .int (μ 65 5), .int (nI 5), .ref 65] μ = am_ev (am_call d) 1043 153 [.ref 56, .int (nI head), .int (nI set), .int (nI all), .int (nI w)] [] μ' ∧ ps_off [65] μ μ' ∧ (∀ j, j ≠ 5 → μ' 65 j = μ 65 j) ∧ μ' 65 5 = nI (ps_oth mk all (set ||| 2 ^ head) w) := by
      intro b hb
      rw [q1043_145, am_ixN (by omega), am_gbI (by omega), am_cN, nI_add, h5, nI_add]
      have ih := m1043_90 d (all := all) hw16 hm2 hs hh k (i + 1) (am_up μ 65 5 (nI (ps_cnt (fun k => !(set ||| 2 ^ head).testBit k && decide (ps_dif (mk k) all = 0)) i + b.toNat))) (by omega) (by rw [am_upK (by omega)]; exact hw) (fun k hk => by rw [am_upK (by omega)]; exact hm k hk) (by rw [am_upS, ps_cnt, hb])
      obtain ⟨μ', g1, g2, g3, g4⟩ := ih
      exact ⟨μ', g1, (ps_off.up ps_off.rf (by simp)).tr g2, fun j hj => by rw [g3 j hj, am_upI hj], g4⟩
    rw [q1043_90, hw, if_neg (by rw [am_leN (by omega) (by omega)]; omega)]
    by_cases hih : i = head
    · rw [if_pos (by rw [hih]), q1043_144]
      refine go false ?_
      rw [hbit, decide_eq_true hih.symm]
      simp
    · rw [if_neg (by rw [am_eqN (by omega) (by omega)]; exact hih), am_cN, am_cN, am_bit (by omega) (by omega)]
      cases hb : set.testBit i with
      | true =>
        rw [if_neg (by decide), q1043_144]
        refine go false ?_
        rw [hbit, hb]
        rfl
      | false =>
        rw [if_pos (by decide), nI_add, am_ixN (by omega), am_gbI (by omega), hm i (by omega), am_andn]
        by_cases hz : ps_dif (mk i) all = 0
        · rw [if_pos (by rw [hz]; rfl)]
          refine go true ?_
          rw [hbit, hb, decide_eq_false (fun e => hih e.symm), decide_eq_true hz]
          rfl
        · rw [if_neg (by rw [am_eq0 (by omega)]; exact hz), q1043_144]
          refine go false ?_
          rw [decide_eq_false hz, Bool.and_false]
theorem m1043_164 (d : Nat) (env : Nat → Int32) {law : List (Bool × List (Nat × Nat))} (hw : ps_Lw law) {x1 x2 x3 : Int32} : ∀ (k l : Nat) (μ : am_Mem), l + k = law.length → ps_Lm 57 law μ → (∀ k, 1 ≤ k → k ≤ 6 → μ 65 k = env k) →
    ∃ μ', am_ev (am_call (d + 2)) 1043 164 [.ref 56, .int x1, .int x2, .int x3, .int (nI l)] [] μ = am_ret (some (.int (nI (ps_says env (law.drop l)).toNat))) μ' ∧ ps_off [64] μ μ'
  | 0, l, μ, hl, hL, he => by
    have hlen := hw.1
    refine ⟨μ, ?_, ps_off.rf⟩
    have : law.drop l = [] := List.drop_eq_nil_of_le (by omega)
    rw [q1043_164, hL.1, if_pos (by rw [am_leN (by omega) (by omega)]; omega), q1043_258, this]
    rfl
  | k + 1, l, μ, hl, hL, he => by
    obtain ⟨w1, w2, w3, w4⟩ := hw
    have hlt : l < law.length := by omega
    obtain ⟨q, hq⟩ : ∃ q, law[l]? = some q := ⟨law[l], List.getElem?_eq_getElem hlt⟩
    obtain ⟨l1, l2, l3, l4⟩ := hL.2 l q hq
    have hp1 : ps_posM law (l + 1) = ps_posM law l + q.2.length := ps_pos_succ _ law l q hq
    have hp2 : ps_posM law (l + 1) ≤ 400 := Nat.le_trans (ps_pos_le _ law (l + 1)) w3
    have hdrop : law.drop l = q :: law.drop (l + 1) := by
      rw [List.drop_eq_getElem_cons hlt]
      congr 1
      exact Option.some.inj ((List.getElem?_eq_getElem hlt).symm.trans hq)
    have h232 : ∀ (μ1 : am_Mem), μ1 57 = μ 57 → am_ev (am_call (d + 2)) 1043 232 [.ref 56, .int x1, .int x2, .int x3, .int (nI l)] [] μ1 = am_ret (some (.int (nI q.1.toNat))) μ1 := by
      intro μ1 e8
      rw [q1043_232, am_cN, nI_add, am_ixN (by omega), am_gbI (by omega), e8, l1]
      cases q.1
      · rw [if_neg (by decide), q1043_250, q1043_251, am_gbt0]; rfl
      · rw [if_pos (by decide), q1043_251, am_gbt1]; rfl
    rw [q1043_164, hL.1, if_neg (by rw [am_leN (by omega) (by omega)]; omega), am_cN, am_cN, nI_add, nI_add, am_ixN (by omega), am_ixN (by omega), am_gbI (by omega), am_gbI (by omega), am_gbI (by omega), am_gbI (by omega), l2, l3]
    by_cases hne : q.2 = []
    · have hz : ps_posM law (l + 1) = ps_posM law l := by rw [hp1, hne]; rfl
      refine ⟨μ, ?_, ps_off.rf⟩
      rw [hz, if_pos rfl, h232 μ rfl, hdrop, ps_says, if_pos (by rw [ps_line, hne]; rfl)]
    · have hty := (w4 q (List.mem_of_getElem? hq)).resolve_left hne
      have hql : 0 < q.2.length := List.length_pos_iff.mpr hne
      obtain ⟨μ1, g1, g2⟩ := m1041_5 d env (nI (ps_posM law l)) q.2 (ps_posM law l) [] μ .null .null l4 (by omega) he (fun j x hj => by simp at hj) hty.ok (by simp)
      obtain ⟨x, r1, r2⟩ := ps_fit.run env hty (st := []) trivial
      rw [r1] at g1
      have g0 : am_call (d + 2) 1041 [.ref 56, .int (nI (ps_posM law l)), .int (nI (ps_posM law (l + 1)))] μ = am_ret (some (.int x)) μ1 := by
        rw [e1041, q1041_0, hp1]
        exact g1
      rw [if_neg (by rw [am_eqN (by omega) (by omega)]; omega), g0, am_bI_ret, hdrop, ps_says]
      have hemp : q.2.isEmpty = false := by
        cases hq2 : q.2 with
        | nil => exact absurd hq2 hne
        | cons _ _ => rfl
      rcases r2 with rfl | rfl
      · have hline : ¬ ps_line env q.2 = true := by rw [ps_line, hemp, r1]; decide
        rw [if_neg (by decide), if_neg hline, q1043_252, am_cN, nI_add]
        obtain ⟨μ2, k1, k2⟩ := m1043_164 d env ⟨w1, w2, w3, w4⟩ k (l + 1) μ1 (by omega)
          ⟨by rw [g2 57 (by simp)]; exact hL.1, fun l' q' h' => by
            obtain ⟨a1, a2, a3, a4⟩ := hL.2 l' q' h'
            exact ⟨by rw [g2 57 (by simp)]; exact a1, by rw [g2 57 (by simp)]; exact a2, by rw [g2 57 (by simp)]; exact a3, fun j q' hj => by rw [g2 57 (by simp)]; exact a4 j q' hj⟩⟩ (fun k k1 k2 => by rw [g2 65 (by simp)]; exact he k k1 k2)
        exact ⟨μ2, k1, g2.tr k2⟩
      · have hline : ps_line env q.2 = true := by rw [ps_line, hemp, r1]; decide
        rw [if_pos (by decide), if_pos hline]
        exact ⟨μ1, h232 μ1 (g2 57 (by simp)), g2⟩
