/-! a set fixes a head: the component -/
theorem c102 (d : Nat) {j : Nat} (h1 : 9 ≤ j) (h2 : j ≤ 14) (x : Int32) (μ : am_Mem) : am_call (d + 1) 102 [.ref 7, .int (nI j), .int x] μ = am_ret none (am_up μ 11 (j - 9) x) := by
  have e9 : nI j - am_c 9 = nI (j - 9) := by rw [am_cN, pk_sub (by omega)]
  rw [e102, q102_0, if_neg (by rw [am_cN, am_ltN (by omega) (by omega)]; omega), if_neg (by rw [am_cN, am_ltN (by omega) (by omega)]; omega), e9]
  simp (disch := omega) only [am_ixN, am_gbI]
  rw [q102_22]
def ps_dif (a b : Nat) : Nat := a ^^^ (a &&& b)
theorem ps_dif_bit (a b k : Nat) : (ps_dif a b).testBit k = (a.testBit k && !b.testBit k) := by
  rw [ps_dif, Nat.testBit_xor, Nat.testBit_and]
  cases a.testBit k <;> cases b.testBit k <;> rfl
theorem ps_dif_lt {a b n : Nat} (h : a < 2 ^ n) : ps_dif a b < 2 ^ n := Nat.xor_lt_two_pow h (Nat.lt_of_le_of_lt Nat.and_le_left h)
theorem am_andn (a b : Nat) : nI a &&& (nI b ^^^ am_c (-1)) = nI (ps_dif a b) := by
  apply Int32.toBitVec_inj.1
  show BitVec.ofNat 32 a &&& (BitVec.ofNat 32 b ^^^ BitVec.allOnes 32) = BitVec.ofNat 32 (ps_dif a b)
  apply BitVec.eq_of_getLsbD_eq
  intro i hi
  simp only [BitVec.getLsbD_and, BitVec.getLsbD_xor, BitVec.getLsbD_ofNat, BitVec.getLsbD_allOnes, hi, decide_true, Bool.true_and, ps_dif_bit, Bool.xor_true]
/-- the union of f over the set s, of the first n -/
def ps_ors (f : Nat → Nat) (s : Nat) : Nat → Nat
  | 0 => 0
  | n + 1 => ps_ors f s n ||| (if s.testBit n = true then f n else 0)
theorem ps_ors_lt {f : Nat → Nat} {s b : Nat} : ∀ {n : Nat}, (∀ k, k < n → f k < 2 ^ b) → ps_ors f s n < 2 ^ b
  | 0, _ => Nat.two_pow_pos b
  | n + 1, h => by
    refine Nat.or_lt_two_pow (ps_ors_lt (fun k hk => h k (by omega))) ?_
    split
    · exact h n (by omega)
    · exact Nat.two_pow_pos b
def ps_oth (mk : Nat → Nat) (all out w : Nat) : Nat := ps_cnt (fun k => !out.testBit k && decide (ps_dif (mk k) all = 0)) w
def ps_envv (w : Nat) (mk : Nat → Nat) (head set : Nat) : Nat → Int32 := fun k => match k with
  | 1 => nI (ps_pc (mk head &&& ps_ors mk set w))
  | 2 => nI (ps_pc (ps_dif (mk head) (ps_ors mk set w)))
  | 3 => nI (ps_pc (ps_dif (ps_ors mk set w) (mk head)))
  | 4 => nI (ps_pc set)
  | 5 => nI (ps_oth mk (ps_ors mk set w) (set ||| 2 ^ head) w)
  | _ => nI head
def ps_fix (S : ps_S) (head set : Nat) : Bool := ps_says (ps_envv S.w S.mk head set) S.law
theorem c719_5 (C : am_Ct) {μ : am_Mem} {w all out : Nat} {mk : Nat → Nat} (hw : μ 1 4 = nI w) (hw16 : w ≤ 16) (hm : ∀ k, k < w → μ 2 k = nI (mk k)) (hm2 : ∀ k, k < w → mk k ≤ 1023) (ho : out < 2147483648) : ∀ k i, i + k = w →
    am_ev C 719 5 [.ref 1, .int (nI all), .int (nI out), .int (nI (ps_cnt (fun k => !out.testBit k && decide (ps_dif (mk k) all = 0)) i)), .int (nI i)] [] μ = am_ret (some (.int (nI (ps_oth mk all out w)))) μ
  | 0, i, h => by
    have h : i = w := by omega
    subst h
    rw [q719_5, hw, if_pos (by rw [am_leN (by omega) (by omega)]; exact Nat.le_refl _), q719_46]
    rfl
  | k + 1, i, h => by
    have hd : ps_dif (mk i) all < 1024 := ps_dif_lt (n := 10) (by have := hm2 i (by omega); omega)
    have ih := c719_5 C (all := all) hw hw16 hm hm2 ho k (i + 1) (by omega)
    rw [q719_5, hw, if_neg (by rw [am_leN (by omega) (by omega)]; omega), am_cN, am_bit (by omega) ho, am_ixN (by omega), am_gbI (by omega), hm i (by omega), am_andn]
    rw [ps_cnt] at ih
    simp only [am_b0, am_eq0 (show ps_dif (mk i) all < 2147483648 by omega), q719_40, am_cN, nI_add]
    cases hb : out.testBit i with
    | true =>
      rw [hb] at ih
      simpa using ih
    | false =>
      rw [hb] at ih
      by_cases hz : ps_dif (mk i) all = 0
      · simpa [hz] using ih
      · simpa [hz] using ih
theorem c719 (d : Nat) {μ : am_Mem} {w all out : Nat} {mk : Nat → Nat} (hw : μ 1 4 = nI w) (hw16 : w ≤ 16) (hm : ∀ k, k < w → μ 2 k = nI (mk k)) (hm2 : ∀ k, k < w → mk k ≤ 1023) (ho : out < 2147483648) : am_call (d + 1) 719 [.ref 1, .int (nI all), .int (nI out)] μ = am_ret (some (.int (nI (ps_oth mk all out w)))) μ := by
  rw [e719, q719_0]
  exact c719_5 _ hw hw16 hm hm2 ho w 0 (by omega)
theorem c103_2 (d : Nat) (env : Nat → Int32) {law : List (Bool × List (Nat × Nat))} (hw : ps_Lw law) : ∀ (k l : Nat) (μ : am_Mem) (v2 v3 : Value), l + k = law.length → ps_Lc 7 law μ → (∀ k, 1 ≤ k → k ≤ 6 → μ 11 (k - 1) = env k) →
    ∃ μ', am_ev (am_call (d + 1)) 103 2 [.ref 7, .int (nI l), v2, v3] [] μ = am_ret (some (.int (nI (ps_says env (law.drop l)).toNat))) μ' ∧ ps_off [12] μ μ'
  | 0, l, μ, v2, v3, hl, hL, he => by
    have hlen := hw.1
    refine ⟨μ, ?_, ps_off.rf⟩
    have : law.drop l = [] := List.drop_eq_nil_of_le (by omega)
    rw [q103_2, hL.1, if_pos (by rw [am_leN (by omega) (by omega)]; omega), q103_84, this]
    rfl
  | k + 1, l, μ, v2, v3, hl, hL, he => by
    obtain ⟨w1, w2, w3, w4⟩ := hw
    have hlt : l < law.length := by omega
    obtain ⟨q, hq⟩ : ∃ q, law[l]? = some q := ⟨law[l], List.getElem?_eq_getElem hlt⟩
    obtain ⟨l1, l2, l3, l4⟩ := hL.2 l q hq
    have hp1 : ps_posC law (l + 1) = ps_posC law l + (ps_encs q.2).length := ps_pos_succ _ law l q hq
    have hp2 : ps_posC law (l + 1) ≤ 400 := Nat.le_trans (ps_pos_le _ law (l + 1)) w2
    have hdrop : law.drop l = q :: law.drop (l + 1) := by
      rw [List.drop_eq_getElem_cons hlt]
      congr 1
      exact Option.some.inj ((List.getElem?_eq_getElem hlt).symm.trans hq)
    have h62 : ∀ (μ1 : am_Mem) (x2 x3 : Int32), μ1 8 = μ 8 → am_ev (am_call (d + 1)) 103 62 [.ref 7, .int (nI l), .int x2, .int x3] [] μ1 = am_ret (some (.int (nI q.1.toNat))) μ1 := by
      intro μ1 x2 x3 e8
      rw [q103_62, am_ixN (by omega), am_gbI (by omega), e8, l1]
      cases q.1
      · rw [if_neg (by decide), q103_76, q103_77, am_gbt0]; rfl
      · rw [if_pos (by decide), q103_77, am_gbt1]; rfl
    rw [q103_2, hL.1, if_neg (by rw [am_leN (by omega) (by omega)]; omega), am_ixN (by omega), am_gbI (by omega), l2]
    by_cases hne : q.2 = []
    · have hz : ps_posC law (l + 1) = ps_posC law l := by rw [hp1, hne]; rfl
      refine ⟨μ, ?_, ps_off.rf⟩
      have hE : μ 9 (l + 1) = nI (ps_posC law l) := by rw [← hz]; exact l3
      rw [q103_19]
      simp (disch := omega) only [am_cN, nI_add, am_ixN, am_gbI, hE, am_leN, Nat.le_refl, if_true]
      rw [q103_49, if_pos (by decide), h62 μ _ _ rfl, hdrop, ps_says, if_pos (by rw [ps_line, hne]; rfl)]
    · have hty := (w4 q (List.mem_of_getElem? hq)).resolve_left hne
      obtain ⟨μ1, g1, g2, g3⟩ := c103_19 d env (line := l) (E := ps_posC law (l + 1)) (by omega) hp2 q.2 (ps_posC law l) [] μ l4 hp1.symm l3 he (fun j x hj => by simp at hj) hty.ok (by simp)
      obtain ⟨x, r1, r2⟩ := ps_fit.run env hty (st := []) trivial
      rw [r1] at g3
      have g3 : μ1 12 0 = x := g3
      have g1' : am_ev (am_call (d + 1)) 103 19 [.ref 7, .int (nI l), .int (am_c 0), .int (nI (ps_posC law l))] [] μ = am_ev (am_call (d + 1)) 103 49 [.ref 7, .int (nI l), .int (nI 1), .int (nI (ps_posC law (l + 1)))] [] μ1 := g1
      rw [g1', q103_49, if_neg (by decide), g3, hdrop, ps_says]
      have hemp : q.2.isEmpty = false := by
        cases hq2 : q.2 with
        | nil => exact absurd hq2 hne
        | cons _ _ => rfl
      rcases r2 with rfl | rfl
      · have hline : ¬ ps_line env q.2 = true := by rw [ps_line, hemp, r1]; decide
        rw [if_pos rfl, if_neg hline, q103_78, am_cN, nI_add]
        obtain ⟨μ2, k1, k2⟩ := c103_2 d env ⟨w1, w2, w3, w4⟩ k (l + 1) μ1 (.int (nI 1)) (.int (nI (ps_posC law (l + 1)))) (by omega)
          ⟨by rw [g2 7 (by simp)]; exact hL.1, fun l' q' h' => by
            obtain ⟨a1, a2, a3, a4⟩ := hL.2 l' q' h'
            exact ⟨by rw [g2 8 (by simp)]; exact a1, by rw [g2 9 (by simp)]; exact a2, by rw [g2 9 (by simp)]; exact a3, a4.off (g2 10 (by simp))⟩⟩ (fun k k1 k2 => by rw [g2 11 (by simp)]; exact he k k1 k2)
        exact ⟨μ2, k1, g2.tr k2⟩
      · have hline : ps_line env q.2 = true := by rw [ps_line, hemp, r1]; decide
        rw [if_neg (by decide), if_pos hline]
        exact ⟨μ1, h62 μ1 _ _ (g2 8 (by simp)), g2⟩
theorem c103 (d : Nat) (env : Nat → Int32) {law : List (Bool × List (Nat × Nat))} (hw : ps_Lw law) {μ : am_Mem} (hL : ps_Lc 7 law μ) (he : ∀ k, 1 ≤ k → k ≤ 6 → μ 11 (k - 1) = env k) : ∃ μ', am_call (d + 2) 103 [.ref 7] μ = am_ret (some (.int (nI (ps_says env law).toNat))) μ' ∧ ps_off [12] μ μ' := by
  obtain ⟨μ', h1, h2⟩ := c103_2 d env hw law.length 0 μ .null .null (by omega) hL he
  refine ⟨μ', ?_, h2⟩
  rw [e103, q103_0]
  exact h1
