/-! most, the model -/
def ps_tq (t : Nat) : Nat → Nat := fun k => t / 4 ^ k % 4
def ps_rm' (m : Nat) (tk : Nat → Nat) : Nat → Nat := fun k => m - tk k
theorem ps_tq_le (t k : Nat) : ps_tq t k ≤ 3 := by unfold ps_tq; omega
theorem ps_en_dec : ∀ {n t : Nat}, t < 4 ^ n → ps_en (ps_tq t) n = t
  | 0, t, h => by rw [Nat.pow_zero] at h; rw [ps_en]; omega
  | n + 1, t, h => by
    have hp : 0 < 4 ^ n := Nat.pow_pos (by omega)
    have h1 : t / 4 ^ n < 4 := by rw [Nat.div_lt_iff_lt_mul hp, Nat.mul_comm, ← Nat.pow_succ]; exact h
    have ih := ps_en_dec (n := n) (t := t % 4 ^ n) (Nat.mod_lt _ hp)
    have e : ps_en (ps_tq t) n = ps_en (ps_tq (t % 4 ^ n)) n := by
      apply ps_en_congr
      intro k hk
      show t / 4 ^ k % 4 = t % 4 ^ n / 4 ^ k % 4
      obtain ⟨i, hi⟩ : ∃ i, n = k + (i + 1) := ⟨n - k - 1, by omega⟩
      rw [hi, Nat.pow_add, Nat.mod_mul_right_div_self, Nat.pow_succ, Nat.mul_comm, Nat.mod_mul_right_mod]
    rw [ps_en, e, ih]
    show t % 4 ^ n + t / 4 ^ n % 4 * 4 ^ n = t
    rw [Nat.mod_eq_of_lt h1, Nat.mul_comm]
    exact Nat.mod_add_div t (4 ^ n)
theorem ps_en_zero {c : Nat → Nat} {n : Nat} : ∀ (i : Nat), (∀ k, n ≤ k → k < n + i → c k = 0) → ps_en c (n + i) = ps_en c n
  | 0, _ => rfl
  | i + 1, h => by
    rw [← Nat.add_assoc, ps_en, h (n + i) (by omega) (by omega), Nat.zero_mul, Nat.add_zero]
    exact ps_en_zero i (fun k h1 h2 => h k h1 (by omega))
theorem ps_en_inc {f : Nat → Nat} {k : Nat} : ∀ {n : Nat}, k < n → ps_en (fun i => if i = k then f i + 1 else f i) n = ps_en f n + 4 ^ k
  | 0, h => by omega
  | n + 1, h => by
    rw [ps_en, ps_en]
    by_cases hk : k = n
    · subst hk
      rw [if_pos rfl, ps_en_congr (a := fun i => if i = k then f i + 1 else f i) (b := f) (fun i hi => by rw [if_neg (by omega)]), Nat.add_mul]
      omega
    · rw [ps_en_inc (n := n) (by omega), if_neg (fun e => hk e.symm)]
      omega
theorem ps_fits_congr {n s : Nat} {c c' : Nat → Nat} (h : ∀ k, k < n → c k = c' k) : ps_fits n c s = ps_fits n c' s := by
  have : ps_fits n c s = true ↔ ps_fits n c' s = true := by
    rw [ps_fits_iff, ps_fits_iff]
    exact ⟨fun z k hk hs => by rw [← h k hk]; exact z k hk hs, fun z k hk hs => by rw [h k hk]; exact z k hk hs⟩
  cases h1 : ps_fits n c s <;> cases h2 : ps_fits n c' s <;> simp_all
section Ops30
variable {S : ps_S}
theorem ps_cn_congr {j : Nat} {c c' : Nat → Nat} (h : ∀ k, k < S.w → c k = c' k) : ps_cn S j c = ps_cn S j c' := by
  have v0 : ps_VS S j c = ps_VS S j c' := ps_V_congr h
  have v1 : ps_VS S (j + 1) c = ps_VS S (j + 1) c' := ps_V_congr h
  have hp : ps_pd S j c = ps_pd S j c' := by
    funext s
    have v2 : ps_VS S j (ps_sb c s) = ps_VS S j (ps_sb c' s) := ps_V_congr (fun k hk => by show c k - _ = c' k - _; rw [h k hk])
    rw [ps_pd, ps_pd, ps_fits_congr h, v1, v2]
  rw [ps_cn, ps_cn, ps_lset, ps_lset, v0, v1, hp]
theorem ps_chl_congr : ∀ (j : Nat) {c c' : Nat → Nat}, (∀ k, k < S.w → c k = c' k) → ps_chl S j c = ps_chl S j c'
  | 0, _, _, _ => rfl
  | j + 1, c, c', h => by
    have e := ps_cn_congr (j := j) h
    rw [ps_chl, ps_chl, e, ps_chl_congr j (c := ps_nc S j c) (c' := ps_nc S j c') (fun k hk => ?_)]
    unfold ps_nc
    rw [e]
    split
    · exact h k hk
    · show c k - _ = c' k - _
      rw [h k hk]
theorem m1069 (d : Nat) {tk : Nat → Nat} (ht : ∀ k, k < 7 → tk k ≤ 3) {s m : Nat} (hs : s < 128) (hm1 : 1 ≤ m) (hm : m ≤ 3) (μ : am_Mem) : am_call (d + 1) 1069 [.int (nI (ps_en tk 7)), .int (nI s), .int (nI m)] μ = am_ret (some (.int (if ps_fits 7 (ps_rm' m tk) s = true then nI (ps_en (fun k => tk k + ps_bits s k) 7) else am_c (-1)))) μ := by
  have lp : ∀ i k, k + i = 7 → (∀ k', k' < k → s.testBit k' = true → 1 ≤ m - tk k') → am_ev (am_call d) 1069 5 [.int (nI (ps_en tk 7)), .int (nI s), .int (nI m), .int (nI (ps_en (fun i => if i < k then tk i + ps_bits s i else tk i) 7)), .int (nI k)] [] μ = am_ret (some (.int (if ps_fits 7 (ps_rm' m tk) s = true then nI (ps_en (fun k => tk k + ps_bits s k) 7) else am_c (-1)))) μ := by
    intro i
    induction i with
    | zero =>
      intro k hk hdone
      have hk : k = 7 := hk
      subst hk
      rw [q1069_5, if_pos (by decide), q1069_53, if_pos (show ps_fits 7 (ps_rm' m tk) s = true from ps_fits_iff.mpr hdone), ps_en_congr (a := fun i => if i < 7 then tk i + ps_bits s i else tk i) (b := fun k => tk k + ps_bits s k) (fun k hk => by rw [if_pos hk])]
    | succ i ih =>
      intro k hk hdone
      have hf3 : ∀ k', k' < 7 → (if k' < k then tk k' + ps_bits s k' else tk k') ≤ 3 := fun k' hk' => by
        have h3 := ht k' hk'
        split
        · rename_i hlt
          unfold ps_bits
          cases hb : s.testBit k' with
          | false => exact h3
          | true => have := hdone k' hlt hb; show tk k' + 1 ≤ 3; omega
        · exact h3
      have hel : ps_en (fun i => if i < k then tk i + ps_bits s i else tk i) 7 < 2 ^ 14 := ps_en_lt hf3
      have hp14 : 2 ^ (2 * k) < 2 ^ 14 := Nat.pow_lt_pow_right (by omega) (by omega)
      rw [q1069_5, if_neg (by rw [am_cN, am_leN (by omega) (by omega)]; omega), show am_c 1 = nI 1 from rfl, am_bit (by omega) (by omega)]
      cases hb : s.testBit k with
      | false =>
        rw [if_pos (by decide), q1069_47, am_cN, nI_add, ps_en_congr (a := fun i => if i < k then tk i + ps_bits s i else tk i) (b := fun i => if i < k + 1 then tk i + ps_bits s i else tk i) (fun k' hk' => by
          by_cases h1 : k' < k
          · rw [if_pos h1, if_pos (by omega)]
          · rw [if_neg h1]
            by_cases h2 : k' = k
            · subst h2; rw [if_pos (by omega), ps_bits, hb]; rfl
            · rw [if_neg (by omega)])]
        exact ih (k + 1) (by omega) (fun k' hk' hs' => by
          by_cases h2 : k' = k
          · subst h2; rw [hb] at hs'; exact absurd hs' (by decide)
          · exact hdone k' (by omega) hs')
      | true =>
        have hdv := ps_en_div hf3 k (by omega)
        rw [if_neg (Nat.lt_irrefl k), ps_four] at hdv
        rw [if_neg (by decide), q1069_24, show am_c 2 = nI 2 from rfl, pk_mul, am_shr (by omega) (by omega), show am_c 3 = nI (2 ^ 2 - 1) from rfl, am_and, Nat.and_two_pow_sub_one_eq_mod, show (2 : Nat) ^ 2 = 4 from rfl, hdv]
        have h3 := ht k (by omega)
        by_cases hlt : tk k < m
        · rw [if_pos (by rw [am_ltN (by omega) (by omega)]; exact hlt), q1069_38, q1069_47, show am_c 2 = nI 2 from rfl, pk_mul, show am_c 1 = nI 1 from rfl, am_shl1 (by omega), nI_add, nI_add, ← ps_four, ← ps_en_inc (f := fun i => if i < k then tk i + ps_bits s i else tk i) (k := k) (n := 7) (by omega), ps_en_congr (a := fun i => if i = k then (if i < k then tk i + ps_bits s i else tk i) + 1 else (if i < k then tk i + ps_bits s i else tk i)) (b := fun i => if i < k + 1 then tk i + ps_bits s i else tk i) (fun k' hk' => by
            by_cases h2 : k' = k
            · subst h2; rw [if_pos rfl, if_neg (Nat.lt_irrefl _), if_pos (by omega), ps_bits, hb]; rfl
            · rw [if_neg h2]
              by_cases h1 : k' < k
              · rw [if_pos h1, if_pos (by omega)]
              · rw [if_neg h1, if_neg (by omega)])]
          exact ih (k + 1) (by omega) (fun k' hk' hs' => by
            by_cases h2 : k' = k
            · subst h2; omega
            · exact hdone k' (by omega) hs')
        · rw [if_neg (by rw [am_ltN (by omega) (by omega)]; exact hlt), if_neg (fun z => hlt (by
            have := ps_fits_iff.mp z k (by omega) hb
            have : 1 ≤ m - tk k := this
            omega))]
  rw [e1069, q1069_0, show am_c 0 = nI 0 from rfl, ps_en_congr (a := tk) (b := fun i => if i < 0 then tk i + ps_bits s i else tk i) (fun k hk => by rw [if_neg (by omega)])]
  have := lp 7 0 (by omega) (fun k' hk' => by omega)
  rw [ps_en_congr (a := tk) (b := fun i => if i < 0 then tk i + ps_bits s i else tk i) (fun k hk => by rw [if_neg (by omega)])] at this
  exact this
/-- the tables -/
def ps_Gt (S : ps_S) (μ : am_Mem) : Prop := ∀ h s, h < S.w → 1 ≤ s → s < 2 ^ S.w → μ 71 (128 * h + s) = nI (ps_gG S h s).toNat
def ps_Tt (S : ps_S) (m j : Nat) (μ : am_Mem) : Prop := ∀ t, t < 4 ^ S.w → μ 69 (16384 * (S.w - j) + t) = nI (ps_VS S j (ps_rm' m (ps_tq t)))
def ps_bb (S : ps_S) (j : Nat) (c : Nat → Nat) (s : Nat) : Int32 := if s = 0 then nI (ps_VS S j c) else if ps_gG S (S.w - (j + 1)) s = true ∧ ps_fits S.w c s = true then nI (1 + ps_VS S j (ps_sb c s)) else am_c (-1)
theorem m1070 (d : Nat) (hw : S.w ≤ 7) {m : Nat} (hm1 : 1 ≤ m) (hm : m ≤ 3) {μ : am_Mem} (hG : ps_Gt S μ) {j : Nat} (hj : j + 1 ≤ S.w) (hT : ps_Tt S m j μ) {t s : Nat} (ht : t < 4 ^ S.w) (hs : s < 2 ^ S.w) : am_call (d + 2) 1070 [.ref 56, .int (nI (S.w - (j + 1))), .int (nI t), .int (nI s), .int (nI m)] μ = am_ret (some (.int (ps_bb S j (ps_rm' m (ps_tq t)) s))) μ ∧ (ps_gG S (S.w - (j + 1)) s = true ∧ ps_fits S.w (ps_rm' m (ps_tq t)) s = true ∨ s = 0 → ∃ t', t' < 4 ^ S.w ∧ am_call (d + 1) 1069 [.int (nI t), .int (nI s), .int (nI m)] μ = am_ret (some (.int (nI t'))) μ ∧ ∀ k, k < S.w → ps_rm' m (ps_tq t') k = ps_sb (ps_rm' m (ps_tq t)) s k) := by
  have p7 : 2 ^ S.w ≤ 2 ^ 7 := Nat.pow_le_pow_right (by omega) hw
  have q7 : 4 ^ S.w ≤ 4 ^ 7 := Nat.pow_le_pow_right (by omega) hw
  have ht7 : t < 4 ^ 7 := Nat.lt_of_lt_of_le ht q7
  have eh : S.w - (j + 1) + 1 = S.w - j := by omega
  have tk0 : ∀ k, S.w ≤ k → ps_tq t k = 0 := fun k hk => by
    show t / 4 ^ k % 4 = 0
    rw [Nat.div_eq_of_lt (Nat.lt_of_lt_of_le ht (Nat.pow_le_pow_right (by omega) hk))]
  have s0 : ∀ k, S.w ≤ k → ps_bits s k = 0 := fun k hk => by
    show (s.testBit k).toNat = 0
    rw [Nat.testBit_lt_two_pow (Nat.lt_of_lt_of_le hs (Nat.pow_le_pow_right (by omega) hk))]
    rfl
  have call := m1069 d (tk := ps_tq t) (fun k _ => ps_tq_le t k) (s := s) (m := m) (by omega) hm1 hm μ
  rw [ps_en_dec ht7] at call
  have hf7 : ps_fits 7 (ps_rm' m (ps_tq t)) s = true ↔ ps_fits S.w (ps_rm' m (ps_tq t)) s = true := by rw [ps_fits_iff]; exact ps_fits7 hw hs
  -- what is taken behind
  have tk : ps_fits S.w (ps_rm' m (ps_tq t)) s = true → ∃ t', t' < 4 ^ S.w ∧ am_call (d + 1) 1069 [.int (nI t), .int (nI s), .int (nI m)] μ = am_ret (some (.int (nI t'))) μ ∧ ∀ k, k < S.w → ps_rm' m (ps_tq t') k = ps_sb (ps_rm' m (ps_tq t)) s k := by
    intro hf
    have hf' := ps_fits_iff.mp hf
    have h3 : ∀ k, k < 7 → ps_tq t k + ps_bits s k ≤ 3 := fun k hk => by
      have h1 := ps_tq_le t k
      unfold ps_bits
      cases hb : s.testBit k with
      | false => exact h1
      | true =>
        have := ps_fits_iff.mp (hf7.mpr hf) k hk hb
        have : 1 ≤ m - ps_tq t k := this
        show ps_tq t k + 1 ≤ 3
        omega
    have ez : ps_en (fun k => ps_tq t k + ps_bits s k) 7 = ps_en (fun k => ps_tq t k + ps_bits s k) S.w := by
      have := ps_en_zero (c := fun k => ps_tq t k + ps_bits s k) (n := S.w) (7 - S.w) (fun k h1 _ => by rw [tk0 k h1, s0 k h1])
      rw [show S.w + (7 - S.w) = 7 by omega] at this
      exact this
    refine ⟨ps_en (fun k => ps_tq t k + ps_bits s k) 7, ?_, by rw [call, if_pos (hf7.mpr hf)], fun k hk => ?_⟩
    · rw [ez]
      exact ps_en_lt (fun k hk => h3 k (by omega))
    · show m - ps_en (fun k => ps_tq t k + ps_bits s k) 7 / 4 ^ k % 4 = m - ps_tq t k - (s.testBit k).toNat
      rw [ps_en_div h3 k (by omega), Nat.sub_sub]
      rfl
  refine ⟨?_, fun hh => ?_⟩
  · rw [e1070, q1070_0, ps_bb]
    by_cases hs0 : s = 0
    · rw [if_pos (by rw [hs0]; decide), if_pos hs0, show am_c 1 = nI 1 from rfl, nI_add, eh, show am_c 16384 = nI 16384 from rfl, pk_mul, nI_add, am_ixN (by omega), am_gbI (by omega), hT t ht]
    · rw [if_neg (by rw [am_eq0 (by omega)]; exact hs0), if_neg hs0, q1070_19, show am_c 128 = nI 128 from rfl, pk_mul, nI_add, am_ixN (by omega), am_gbI (by omega), hG _ s (by omega) (by omega) hs]
      cases hg : ps_gG S (S.w - (j + 1)) s with
      | false => rw [if_pos (by decide), q1070_44, q1070_45, if_pos rfl, q1070_74, if_neg (fun z => absurd z.1 (by decide))]
      | true =>
        rw [if_neg (by decide)]
        by_cases hf : ps_fits S.w (ps_rm' m (ps_tq t)) s = true
        · obtain ⟨t', h1, h2, h3⟩ := tk hf
          rw [h2, am_bI_ret, q1070_45, if_neg (nI_m1 (by omega)), q1070_57, show am_c 1 = nI 1 from rfl, nI_add, eh, show am_c 16384 = nI 16384 from rfl, pk_mul, nI_add, am_ixN (by omega), am_gbI (by omega), hT t' h1, q1070_74, nI_add, if_pos ⟨rfl, hf⟩, show ps_VS S j (ps_rm' m (ps_tq t')) = ps_VS S j (ps_sb (ps_rm' m (ps_tq t)) s) from ps_V_congr h3]
        · rw [call, am_bI_ret, if_neg (fun z => hf (hf7.mp z)), q1070_45, if_pos rfl, q1070_74, if_neg (fun z => hf z.2)]
  · apply tk
    rcases hh with hh | hh
    · exact hh.2
    · rw [hh]
      exact ps_fits_iff.mpr (fun k _ hb => absurd hb (by simp))
theorem v1071_17 (d : Nat) (hW : ps_Wf S) (hlw : ps_Lw S.law) (hw : S.w ≤ 7) (x1 : Int32) (x5 x6 x7 : Value) {h : Nat} (hh : h < S.w) : ∀ k s (μ : am_Mem), ps_Rm 57 S μ → ps_Lm 57 S.law μ → s + k = 2 ^ S.w → 1 ≤ s → (∀ s', 1 ≤ s' → s' < s → μ 71 (128 * h + s') = nI (ps_gG S h s').toNat) → ∃ μ', am_ev (am_call (d + 3)) 1071 17 [.ref 56, .int x1, .int (nI S.w), .int (nI h), .int (nI s), x5, x6, x7] [] μ = am_ev (am_call (d + 3)) 1071 77 [.ref 56, .int x1, .int (nI S.w), .int (nI h), .int (nI (2 ^ S.w)), x5, x6, x7] [] μ' ∧ ps_off [64, 65, 71] μ μ' ∧ (∀ i, i < 128 * h → μ' 71 i = μ 71 i) ∧ ∀ s', 1 ≤ s' → s' < 2 ^ S.w → μ' 71 (128 * h + s') = nI (ps_gG S h s').toNat := by
  have p7 : 2 ^ S.w ≤ 2 ^ 7 := Nat.pow_le_pow_right (by omega) hw
  intro k
  induction k with
  | zero =>
    intro s μ hR hL hs h1 hd
    have hs : s = 2 ^ S.w := hs
    subst hs
    rw [q1071_17, show am_c 1 = nI 1 from rfl, am_shl1 (by omega), if_pos (by rw [am_leN (by omega) (by omega)]; omega)]
    exact ⟨μ, rfl, ps_off.rf, fun _ _ => rfl, hd⟩
  | succ k ih =>
    intro s μ hR hL hs h1 hd
    have hpc : ps_pc s ≤ 16 := ps_cnt_le _ _
    have nx : ∀ (μ1 : am_Mem) (b : Bool), ps_gG S h s = b → ps_off [64, 65] μ μ1 → ∃ μ', am_ev (am_call (d + 3)) 1071 70 [.ref 56, .int x1, .int (nI S.w), .int (nI h), .int (nI s), x5, x6, x7] [.int (nI b.toNat), .int (nI (128 * h + s)), .ref 71] μ1 = am_ev (am_call (d + 3)) 1071 77 [.ref 56, .int x1, .int (nI S.w), .int (nI h), .int (nI (2 ^ S.w)), x5, x6, x7] [] μ' ∧ ps_off [64, 65, 71] μ μ' ∧ (∀ i, i < 128 * h → μ' 71 i = μ 71 i) ∧ ∀ s', 1 ≤ s' → s' < 2 ^ S.w → μ' 71 (128 * h + s') = nI (ps_gG S h s').toNat := by
      intro μ1 b hb o1
      have o2 : ps_off [64, 65, 71] μ (am_up μ1 71 (128 * h + s) (nI b.toNat)) := (o1.mono (by simp)).up (by decide)
      have s2 : ps_scM μ (am_up μ1 71 (128 * h + s) (nI b.toNat)) := ps_scM.of o2 rfl
      obtain ⟨μ', a1, a2, a3, a4⟩ := ih (s + 1) (am_up μ1 71 (128 * h + s) (nI b.toNat)) (s2.R hR) (s2.L hL) (by omega) (by omega) (fun s' h1' h2' => by
        by_cases hss : s' = s
        · subst hss; rw [am_upS, hb]
        · rw [am_upI (by omega), o1 71 (by decide)]; exact hd s' h1' (by omega))
      rw [q1071_70, am_ixN (by omega), am_gbI (by omega), am_nar2, am_cN, nI_add, a1]
      exact ⟨μ', rfl, o2.tr a2, fun i hi => by rw [a3 i hi, am_upI (by omega), o1 71 (by decide)], a4⟩
    rw [q1071_17, show am_c 1 = nI 1 from rfl, am_shl1 (by omega), if_neg (by rw [am_leN (by omega) (by omega)]; omega), m1007 (d + 2) (by omega), am_bI_ret, show am_c 128 = nI 128 from rfl, pk_mul, nI_add, am_bit (by omega) (by omega), q1071_69]
    by_cases c1 : ps_pc s ≤ 2
    · rw [if_neg (by rw [am_cN, am_leN (by omega) (by omega)]; omega)]
      cases c2 : s.testBit h with
      | true =>
        rw [if_neg (by decide)]
        exact nx μ false (by rw [ps_gG, c2]; simp) ps_off.rf
      | false =>
        obtain ⟨μ1, a1, a2⟩ := v1043 d hR hL hW hlw hh (show s < 2 ^ S.w by omega)
        rw [if_pos (by decide), a1, am_bI_ret, q1071_69]
        cases c3 : ps_fx S h s with
        | false =>
          rw [if_pos (by decide)]
          exact nx μ1 false (by rw [ps_gG, c3]; simp) a2
        | true =>
          rw [if_neg (by decide)]
          exact nx μ1 true (by rw [ps_gG, c2, c3, decide_eq_true c1]; rfl) a2
    · rw [if_pos (by rw [am_cN, am_leN (by omega) (by omega)]; omega)]
      exact nx μ false (by rw [ps_gG, decide_eq_false c1]; rfl) ps_off.rf
theorem v1071_9 (d : Nat) (hW : ps_Wf S) (hlw : ps_Lw S.law) (hw : S.w ≤ 7) (x1 : Int32) (x5 x6 x7 : Value) : ∀ k h (x4 : Value) (μ : am_Mem), ps_Rm 57 S μ → ps_Lm 57 S.law μ → h + k = S.w → (∀ h' s, h' < h → 1 ≤ s → s < 2 ^ S.w → μ 71 (128 * h' + s) = nI (ps_gG S h' s).toNat) → ∃ μ' y4, am_ev (am_call (d + 3)) 1071 9 [.ref 56, .int x1, .int (nI S.w), .int (nI h), x4, x5, x6, x7] [] μ = am_ev (am_call (d + 3)) 1071 83 [.ref 56, .int x1, .int (nI S.w), .int (nI S.w), y4, x5, x6, x7] [] μ' ∧ ps_off [64, 65, 71] μ μ' ∧ ps_Gt S μ' := by
  have p7 : 2 ^ S.w ≤ 2 ^ 7 := Nat.pow_le_pow_right (by omega) hw
  have p0 : 1 ≤ 2 ^ S.w := Nat.one_le_two_pow
  intro k
  induction k with
  | zero =>
    intro h x4 μ hR hL hk hd
    have hk : h = S.w := hk
    subst hk
    rw [q1071_9, if_pos (by rw [am_leN (by omega) (by omega)]; omega)]
    exact ⟨μ, _, rfl, ps_off.rf, hd⟩
  | succ k ih =>
    intro h x4 μ hR hL hk hd
    obtain ⟨μ1, a1, a2, a3, a4⟩ := v1071_17 d hW hlw hw x1 x5 x6 x7 (h := h) (by omega) (2 ^ S.w - 1) 1 μ hR hL (by omega) (Nat.le_refl _) (fun s' h1 h2 => by omega)
    have s1 : ps_scM μ μ1 := ps_scM.of a2 rfl
    obtain ⟨μ', y4, b1, b2, b3⟩ := ih (h + 1) (.int (nI (2 ^ S.w))) μ1 (s1.R hR) (s1.L hL) (by omega) (fun h' s hh' h1 h2 => by
      by_cases e : h' = h
      · rw [e]; exact a4 s h1 h2
      · rw [a3 _ (by omega)]; exact hd h' s (by omega) h1 h2)
    rw [q1071_9, if_neg (by rw [am_leN (by omega) (by omega)]; omega), show am_c 1 = nI 1 from rfl, a1, q1071_77, show am_c 1 = nI 1 from rfl, nI_add, b1]
    exact ⟨μ', y4, rfl, a2.tr b2, b3⟩
end Ops30
