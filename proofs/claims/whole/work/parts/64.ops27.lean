/-! most, the component: small methods and the search -/
def ps_gG (S : ps_S) (h s : Nat) : Bool := decide (ps_pc s ≤ 2) && (!s.testBit h && ps_fx S h s)
def ps_sg (S : ps_S) (h : Nat) : Nat := ps_sel (fun k => !decide (k = h) && ps_fx S h (2 ^ k)) S.w
abbrev ps_slS (S : ps_S) (h : Nat) : List Nat := ps_sl (ps_gG S) S.w h
abbrev ps_llS (S : ps_S) (h : Nat) : List Nat := ps_ll (ps_gG S) S.w h (ps_sg S h)
abbrev ps_VS (S : ps_S) (j : Nat) (c : Nat → Nat) : Nat := ps_V (ps_gG S) S.w j c
abbrev ps_tlS (S : ps_S) (j : Nat) : Nat := ps_tl (ps_gG S) S.w j
theorem ps_sg_ok {S : ps_S} (hw : S.w ≤ 16) {h k : Nat} (hk : (ps_sg S h).testBit k = true) : k < S.w ∧ ps_gG S h (2 ^ k) = true := by
  rw [ps_sg, ps_sel_bit, Bool.and_eq_true, Bool.and_eq_true] at hk
  have h1 : k < S.w := of_decide_eq_true hk.1
  have h2 : ¬ k = h := by simpa using hk.2.1
  refine ⟨h1, ?_⟩
  rw [ps_gG, ps_pc_pow (by omega), Nat.testBit_two_pow, decide_eq_false h2, hk.2.2]
  rfl
theorem ps_cnt21 : ∀ n, n < 8 → ∀ h, h < 7 → ((ps_rg (2 ^ n - 1) 1).filter (fun s => decide (ps_pc s ≤ 2) && !s.testBit h)).length ≤ 21 := by decide +kernel
theorem ps_sl_len {S : ps_S} (hw : S.w ≤ 7) {h : Nat} (hh : h < S.w) : (ps_slS S h).length ≤ 21 := by
  refine Nat.le_trans (ps_flt_le (fun s _ hs => ?_)) (ps_cnt21 S.w (by omega) h (by omega))
  rw [ps_gG, Bool.and_eq_true, Bool.and_eq_true] at hs
  rw [hs.1, hs.2.1]
  rfl
theorem ps_ll_len {S : ps_S} (hw : S.w ≤ 7) {h : Nat} (hh : h < S.w) : (ps_llS S h).length ≤ 21 := Nat.le_trans (List.length_filter_le _ _) (ps_sl_len hw hh)
theorem ps_fits7 {n s : Nat} {c : Nat → Nat} (hn : n ≤ 7) (hs : s < 2 ^ n) : (∀ k, k < 7 → s.testBit k = true → 1 ≤ c k) ↔ ps_fits n c s = true := by
  rw [ps_fits_iff]
  constructor
  · intro h k hk
    exact h k (by omega)
  · intro h k hk hb
    rcases Nat.lt_or_ge k n with z | z
    · exact h k z hb
    · rw [Nat.testBit_lt_two_pow (Nat.lt_of_lt_of_le hs (Nat.pow_le_pow_right (by omega) z))] at hb
      exact absurd hb (by decide)
theorem w306 (d : Nat) {s : Nat} (hs : s < 65536) (μ : am_Mem) : am_call (d + 1) 306 [.int (nI s)] μ = am_ret (some (.int (nI (ps_en (ps_bits s) 7)))) μ := by
  have lp : ∀ m k, k + m = 7 → am_ev (am_call d) 306 4 [.int (nI s), .int (nI (ps_en (ps_bits s) k)), .int (nI k)] [] μ = am_ret (some (.int (nI (ps_en (ps_bits s) 7)))) μ := by
    intro m
    induction m with
    | zero =>
      intro k hk
      have hk : k = 7 := hk
      subst hk
      rw [q306_4, if_pos (by decide), q306_28]
    | succ m ih =>
      intro k hk
      have h1 := ps_bits_le s k
      have hp : 2 ^ (2 * k) < 2 ^ 14 := Nat.pow_lt_pow_right (by omega) (by omega)
      have hm : ps_bits s k * 2 ^ (2 * k) ≤ 1 * 2 ^ (2 * k) := Nat.mul_le_mul_right _ h1
      rw [q306_4, if_neg (by rw [am_cN, am_leN (by omega) (by omega)]; omega), show am_c 1 = nI 1 from rfl, am_bit (by omega) (by omega), show am_c 2 = nI 2 from rfl, pk_mul, show (s.testBit k).toNat = ps_bits s k from rfl, am_shl (by omega) (by omega), am_or, nI_add, ← ps_four, ← (ps_en_step (c := ps_bits s) (n := k) (fun i _ => Nat.le_trans (ps_bits_le s i) (by omega))).1]
      exact ih (k + 1) (by omega)
  rw [e306, q306_0]
  exact lp 7 0 (by omega)
theorem w307 (d : Nat) {c : Nat → Nat} (hc : ∀ k, k < 7 → c k ≤ 3) {n s : Nat} (hn : n ≤ 7) (hs : s < 2 ^ n) (μ : am_Mem) : am_call (d + 1) 307 [.int (nI (ps_en c 7)), .int (nI (ps_en (ps_bits s) 7))] μ = am_ret (some (.int (nI (ps_fits n c s).toNat))) μ := by
  have hl : ps_en c 7 < 2 ^ 14 := ps_en_lt hc
  have hb : ps_en (ps_bits s) 7 < 2 ^ 14 := ps_en_lt (fun k _ => Nat.le_trans (ps_bits_le s k) (by omega))
  have hd : ps_dif (ps_en (ps_bits s) 7) ((ps_en c 7 ||| ps_en c 7 / 2 ^ 1) &&& 5461) < 2 ^ 14 := ps_dif_lt hb
  rw [e307, q307_0, show am_c 1 = nI 1 from rfl, am_shr (by omega) (by omega), am_or, show am_c 5461 = nI 5461 from rfl, am_and, am_andn, q307_20, q307_21, q307_21]
  have key := (ps_fit_en (s := s) hc).trans (ps_fits7 hn hs)
  cases hf : ps_fits n c s with
  | true =>
    rw [if_pos (by rw [am_eq0 (by omega)]; exact key.mpr hf), show nI 1 = am_c 1 from rfl, am_gbt1]
    rfl
  | false =>
    rw [if_neg (by rw [am_eq0 (by omega)]; exact fun z => by rw [key.mp z] at hf; exact absurd hf (by decide)), am_gbt0]
    rfl
theorem w309 (d : Nat) (x : Int32) (μ : am_Mem) : ∃ r, r < 4096 ∧ am_call (d + 1) 309 [.int x] μ = am_ret (some (.int (nI r))) μ := by
  refine ⟨am_ix (x * (-1640531535)) / 2 ^ 20, ?_, ?_⟩
  · have := am_ix_lt (x * (-1640531535))
    omega
  · have := pk_ushrN (am_ix_lt (x * (-1640531535))) (am_c 20) 20 (by decide)
    rw [am_nIx] at this
    rw [e309, q309_0]
    exact congrArg (fun z => am_ret (some (.int z)) μ) this
theorem w2001 (d a b : Nat) (ha : a < 2147483648) (hb : b < 2147483648) (μ : am_Mem) : am_call (d + 1) 2001 [.int (nI a), .int (nI b)] μ = am_ret (some (.int (nI (max a b)))) μ := by
  show am_ret (some (.int (if nI a < nI b then nI b else nI a))) μ = _
  by_cases h : a < b
  · rw [if_pos (by rw [am_ltN ha hb]; exact h), Nat.max_eq_right (by omega)]
  · rw [if_neg (by rw [am_ltN ha hb]; exact h), Nat.max_eq_left (by omega)]
/-- the lists of sets in the component's cells -/
def ps_Pm (S : ps_S) (μ : am_Mem) : Prop := μ 48 2 = nI S.w ∧ (∀ h, h < S.w → μ 51 h = nI (ps_slS S h).length ∧ μ 53 h = nI (ps_llS S h).length ∧ (∀ (i s : Nat), (ps_slS S h)[i]? = some s → μ 50 (h * 21 + i) = nI s) ∧ ∀ (i s : Nat), (ps_llS S h)[i]? = some s → μ 52 (h * 21 + i) = nI (ps_en (ps_bits s) 7)) ∧ ∀ j, j ≤ S.w → μ 54 (S.w - j) = nI (ps_tlS S j)
theorem ps_Pm.off {S : ps_S} {μ μ' : am_Mem} (h : ps_Pm S μ) (e : ∀ K, K = 48 ∨ (50 ≤ K ∧ K ≤ 54) → μ' K = μ K) : ps_Pm S μ' := by
  unfold ps_Pm
  rw [e 48 (by omega), e 50 (by omega), e 51 (by omega), e 52 (by omega), e 53 (by omega), e 54 (by omega)]
  exact h
def ps_key (sp h left : Nat) : Nat := sp * 131072 + h * 16384 + left
/-- what was found holds -/
def ps_Fd (S : ps_S) (sp : Nat) (μ : am_Mem) : Prop := ∀ i, i < 4096 → am_ix (μ 55 i) / 1048576 ≤ sp ∧ ∀ j c, j ≤ S.w → (∀ k, k < 7 → c k ≤ 3) → am_ix (μ 55 i) / 8 = ps_key sp (S.w - j) (ps_en c 7) → am_ix (μ 55 i) % 8 = ps_VS S j c
theorem ps_key_or {sp h left : Nat} (hh : h < 8) (hl : left < 16384) : (sp * 2 ^ 17 ||| h * 2 ^ 14) ||| left = ps_key sp h left := by
  have h1 : sp * 2 ^ 17 ||| h * 2 ^ 14 = 2 ^ 14 * (8 * sp + h) := by
    have := Nat.two_pow_add_eq_or_of_lt (show h * 2 ^ 14 < 2 ^ 17 by omega) sp
    rw [Nat.mul_comm sp, ← this]
    omega
  have h2 := Nat.two_pow_add_eq_or_of_lt (show left < 2 ^ 14 by omega) (8 * sp + h)
  rw [h1, ← h2, ps_key]
  omega
section Ops27
variable {S : ps_S}
theorem ps_Fd.up {sp : Nat} {μ : am_Mem} (h : ps_Fd S sp μ) {r j : Nat} {c : Nat → Nat} (hw : S.w ≤ 7) (hj : j ≤ S.w) (hj1 : 1 ≤ j) (hc : ∀ k, k < 7 → c k ≤ 3) (hsp : sp ≤ 2047) : ps_Fd S sp (am_up μ 55 r (nI (ps_key sp (S.w - j) (ps_en c 7) * 8 + ps_VS S j c))) := by
  intro i hi
  by_cases hir : i = r
  · subst hir
    have hl : ps_en c 7 < 2 ^ 14 := ps_en_lt hc
    have hV : ps_VS S j c ≤ 7 := Nat.le_trans ps_V_tl (Nat.le_trans (ps_tl_le j) (by omega))
    have hk : ps_key sp (S.w - j) (ps_en c 7) < 268435456 := by unfold ps_key; omega
    rw [am_upS, am_ixN (by omega)]
    refine ⟨by unfold ps_key; omega, fun j' c' hj' hc' hkey => ?_⟩
    have hl' : ps_en c' 7 < 2 ^ 14 := ps_en_lt hc'
    rw [show (ps_key sp (S.w - j) (ps_en c 7) * 8 + ps_VS S j c) / 8 = ps_key sp (S.w - j) (ps_en c 7) by omega] at hkey
    unfold ps_key at hkey
    have e1 : ps_en c 7 = ps_en c' 7 := by omega
    have e2 : j = j' := by omega
    subst e2
    have hcc : ∀ k, k < S.w → c k = c' k := fun k hk => by rw [← ps_en_div hc k (by omega), e1, ps_en_div hc' k (by omega)]
    rw [show (ps_key sp (S.w - j) (ps_en c 7) * 8 + ps_VS S j c) % 8 = ps_VS S j c by omega]
    exact ps_V_congr hcc
  · rw [am_upI hir]
    exact h i hi
theorem w308 (d : Nat) (hw : S.w ≤ 7) {sp : Nat} (hsp : sp ≤ 2047) : ∀ j, j ≤ S.w → ∀ (c : Nat → Nat) (μ : am_Mem), (∀ k, k < 7 → c k ≤ 3) → ps_Pm S μ → μ 48 9 = nI sp → ps_Fd S sp μ → ∃ μ', am_call (d + j + 2) 308 [.ref 48, .int (nI (S.w - j)), .int (nI (ps_en c 7))] μ = am_ret (some (.int (nI (ps_VS S j c)))) μ' ∧ ps_off [55] μ μ' ∧ ps_Fd S sp μ' := by
  intro j
  induction j with
  | zero =>
    intro hj c μ hc hP h9 hF
    rw [e308, q308_0, hP.1, if_pos (by rw [am_leN (by omega) (by omega)]; omega), q308_17]
    exact ⟨μ, rfl, ps_off.rf, hF⟩
  | succ j ih =>
    intro hj c μ hc hP h9 hF
    have hl : ps_en c 7 < 2 ^ 14 := ps_en_lt hc
    have tl1 := ps_tl_le (G := ps_gG S) (n := S.w) (j + 1)
    have tl0 := ps_tl_le (G := ps_gG S) (n := S.w) j
    have e54 : μ 54 (S.w - (j + 1)) = nI (ps_tlS S (j + 1)) := hP.2.2 (j + 1) hj
    have eh : S.w - (j + 1) + 1 = S.w - j := by omega
    have tlj : ps_tlS S j ≤ 7 := Nat.le_trans tl0 (by omega)
    rw [show d + (j + 1) + 2 = d + j + 2 + 1 by omega, e308, q308_0, hP.1, if_neg (by rw [am_leN (by omega) (by omega)]; omega), am_ixN (by omega), am_gbI (by omega), e54]
    by_cases ht : ps_tlS S (j + 1) = 0
    · have hV : ps_VS S (j + 1) c = 0 := by
        have := ps_V_tl (G := ps_gG S) (n := S.w) (j := j + 1) (c := c)
        have ht : ps_tl (ps_gG S) S.w (j + 1) = 0 := ht
        show ps_V (ps_gG S) S.w (j + 1) c = 0
        omega
      rw [if_pos (by rw [ht]; decide), q308_17, hV]
      exact ⟨μ, rfl, ps_off.rf, hF⟩
    have ht' : ps_tlS S (j + 1) ≤ 7 := Nat.le_trans tl1 (by omega)
    have hkey : ps_key sp (S.w - (j + 1)) (ps_en c 7) < 268435456 := by unfold ps_key; omega
    rw [if_neg (by rw [am_eq0 (by omega)]; exact ht), q308_19, h9, show am_c 17 = nI 17 from rfl, show am_c 14 = nI 14 from rfl, am_shl (by omega) (by omega), am_shl (by omega) (by omega), am_or, am_or, ps_key_or (by omega) (by omega)]
    obtain ⟨r, hr, er⟩ := w309 (d + j + 1) (nI (ps_key sp (S.w - (j + 1)) (ps_en c 7))) μ
    obtain ⟨f1, f2⟩ := hF r hr
    have hv : am_ix (μ 55 r) < 2147483648 := by omega
    rw [er, am_bI_ret, am_ixN (by omega), am_gbI hr, ← am_nIx (μ 55 r), show am_c 3 = nI 3 from rfl, am_shr (by omega) hv, show am_c 7 = nI (2 ^ 3 - 1) from rfl, am_and, Nat.and_two_pow_sub_one_eq_mod]
    by_cases hm : am_ix (μ 55 r) / 2 ^ 3 = ps_key sp (S.w - (j + 1)) (ps_en c 7)
    · rw [if_pos (by rw [hm]), am_gbI hr, show am_ix (μ 55 r) % 2 ^ 3 = _ from f2 (j + 1) c hj hc hm]
      exact ⟨μ, rfl, ps_off.rf, hF⟩
    rw [if_neg (by rw [am_eqN (by omega) (by omega)]; exact hm), q308_64]
    -- the sets
    have hh : S.w - (j + 1) < S.w := by omega
    have hll := ps_ll_len hw hh
    have lp : ∀ m i b (x7 : Value) (μ : am_Mem), i + m = (ps_llS S (S.w - (j + 1))).length → ps_Pm S μ → μ 48 9 = nI sp → ps_Fd S sp μ → b ≤ ps_VS S (j + 1) c → (∀ i' s, i' < i → (ps_llS S (S.w - (j + 1)))[i']? = some s → ps_fits S.w c s = true → 1 + ps_VS S j (ps_sb c s) ≤ b) → ∃ (μ' : am_Mem) (b' : Nat) (i' : Int32) (y7 : Value), am_ev (am_call (d + j + 2)) 308 70 [.ref 48, .int (nI (S.w - (j + 1))), .int (nI (ps_en c 7)), .int (nI (ps_key sp (S.w - (j + 1)) (ps_en c 7))), .int (nI r), .int (nI b), .int (nI i), x7] [] μ = am_ev (am_call (d + j + 2)) 308 141 [.ref 48, .int (nI (S.w - (j + 1))), .int (nI (ps_en c 7)), .int (nI (ps_key sp (S.w - (j + 1)) (ps_en c 7))), .int (nI r), .int (nI b'), .int i', y7] [] μ' ∧ ps_off [55] μ μ' ∧ ps_Fd S sp μ' ∧ b' ≤ ps_VS S (j + 1) c ∧ (ps_tlS S (j + 1) ≤ b' ∨ ∀ s, s ∈ ps_llS S (S.w - (j + 1)) → ps_fits S.w c s = true → 1 + ps_VS S j (ps_sb c s) ≤ b') := by
      intro m
      induction m with
      | zero =>
        intro i b x7 μ hi hP h9 hF hb hdone
        have hi : i = (ps_llS S (S.w - (j + 1))).length := hi
        rw [q308_70, am_ixN (by omega), am_gbI (by omega), (hP.2.1 _ hh).2.1, if_pos (by rw [am_leN (by omega) (by omega)]; omega)]
        refine ⟨μ, b, _, _, rfl, ps_off.rf, hF, hb, Or.inr (fun s hs hf => ?_)⟩
        obtain ⟨i', hi', hs'⟩ := List.mem_iff_getElem.mp hs
        exact hdone i' s (by omega) (by rw [List.getElem?_eq_getElem hi', hs']) hf
      | succ m ihm =>
        intro i b x7 μ hi hP h9 hF hb hdone
        have hV7 : ps_VS S (j + 1) c ≤ 7 := Nat.le_trans ps_V_tl ht'
        rw [q308_70, am_ixN (by omega), am_gbI (by omega), (hP.2.1 _ hh).2.1, if_neg (by rw [am_leN (by omega) (by omega)]; omega), am_gbI (by omega), show μ 54 (S.w - (j + 1)) = nI (ps_tlS S (j + 1)) from hP.2.2 (j + 1) hj]
        by_cases hbt : ps_tlS S (j + 1) ≤ b
        · rw [if_pos (by rw [am_leN (by omega) (by omega)]; exact hbt)]
          exact ⟨μ, b, _, _, rfl, ps_off.rf, hF, hb, Or.inl hbt⟩
        · have hlt : i < (ps_llS S (S.w - (j + 1))).length := by omega
          have hget := List.getElem?_eq_getElem hlt
          have hmem : (ps_llS S (S.w - (j + 1)))[i] ∈ ps_sl (ps_gG S) S.w (S.w - (j + 1)) := (List.mem_filter.mp (List.getElem_mem hlt)).1
          obtain ⟨⟨s1, s2⟩, s3⟩ := ps_sl_mem.mp hmem
          have h52 := (hP.2.1 _ hh).2.2.2 i _ hget
          generalize hs : (ps_llS S (S.w - (j + 1)))[i] = s at *
          have hbl : ps_en (ps_bits s) 7 < 2 ^ 14 := ps_en_lt (fun k _ => Nat.le_trans (ps_bits_le s k) (by omega))
          rw [if_neg (by rw [am_leN (by omega) (by omega)]; exact hbt), show am_c 21 = nI 21 from rfl, pk_mul, nI_add, am_ixN (by omega), am_gbI (by omega), h52, w307 (d + j + 1) hc hw s2, am_bI_ret]
          have nx : ∀ (b1 : Nat) (v : Int32) (μ1 : am_Mem), ps_off [55] μ μ1 → ps_Fd S sp μ1 → b ≤ b1 → b1 ≤ ps_VS S (j + 1) c → (ps_fits S.w c s = true → 1 + ps_VS S j (ps_sb c s) ≤ b1) → ∃ (μ' : am_Mem) (b' : Nat) (i' : Int32) (y7 : Value), am_ev (am_call (d + j + 2)) 308 135 [.ref 48, .int (nI (S.w - (j + 1))), .int (nI (ps_en c 7)), .int (nI (ps_key sp (S.w - (j + 1)) (ps_en c 7))), .int (nI r), .int (nI b1), .int (nI i), .int v] [] μ1 = am_ev (am_call (d + j + 2)) 308 141 [.ref 48, .int (nI (S.w - (j + 1))), .int (nI (ps_en c 7)), .int (nI (ps_key sp (S.w - (j + 1)) (ps_en c 7))), .int (nI r), .int (nI b'), .int i', y7] [] μ' ∧ ps_off [55] μ μ' ∧ ps_Fd S sp μ' ∧ b' ≤ ps_VS S (j + 1) c ∧ (ps_tlS S (j + 1) ≤ b' ∨ ∀ s, s ∈ ps_llS S (S.w - (j + 1)) → ps_fits S.w c s = true → 1 + ps_VS S j (ps_sb c s) ≤ b') := by
            intro b1 v μ1 o1 hF1 hb1 hb2 hb3
            obtain ⟨μ', b', i', y7, z1, z2, z3⟩ := ihm (i + 1) b1 (.int v) μ1 (by omega) (hP.off (fun K hK => o1 K (by simp; omega))) (by rw [o1 48 (by decide)]; exact h9) hF1 hb2 (fun i' s' hi' hs' hf' => by
              by_cases hii : i' = i
              · subst hii
                rw [hget] at hs'
                cases hs'
                exact hb3 hf'
              · exact Nat.le_trans (hdone i' s' (by omega) hs' hf') hb1)
            rw [q308_135, am_cN, nI_add, z1]
            exact ⟨μ', b', i', y7, rfl, o1.tr z2, z3⟩
          cases hf : ps_fits S.w c s with
          | false =>
            rw [if_pos (by decide)]
            exact nx b _ μ ps_off.rf hF (Nat.le_refl _) hb (fun z => by rw [hf] at z; exact absurd z (by decide))
          | true =>
            have hfit := (ps_fits7 hw s2).mpr hf
            have hsb := ps_en_sb (c := c) (s := s) (n := 7) hfit
            have hc' : ∀ k, k < 7 → ps_sb c s k ≤ 3 := fun k hk => Nat.le_trans (Nat.sub_le _ _) (hc k hk)
            obtain ⟨μ1, a1, a2, a3⟩ := ih (by omega) (ps_sb c s) μ hc' hP h9 hF
            have hle := ps_V_ge (G := ps_gG S) (n := S.w) (j := j) (c := c) s1 s2 s3 hf
            have hle : 1 + ps_VS S j (ps_sb c s) ≤ ps_VS S (j + 1) c := hle
            rw [if_neg (by decide), show am_c 1 = nI 1 from rfl, nI_add, eh, pk_sub (by omega), show ps_en c 7 - ps_en (ps_bits s) 7 = ps_en (ps_sb c s) 7 by omega, a1, am_bI_ret, nI_add, w2001 (d + j + 1) _ _ (by omega) (by omega), am_bI_ret]
            exact nx (max b (1 + ps_VS S j (ps_sb c s))) _ μ1 a2 a3 (Nat.le_max_left _ _) (Nat.max_le.mpr ⟨hb, hle⟩) (fun _ => Nat.le_max_right _ _)
    obtain ⟨μ1, b, i', y7, a1, a2, a3, a4, a5⟩ := lp (ps_llS S (S.w - (j + 1))).length 0 0 .null μ (by omega) hP h9 hF (Nat.zero_le _) (fun i' s hi' => by omega)
    have hP1 : ps_Pm S μ1 := hP.off (fun K hK => a2 K (by simp; omega))
    have h91 : μ1 48 9 = nI sp := by rw [a2 48 (by decide)]; exact h9
    have hV7 : ps_VS S (j + 1) c ≤ 7 := Nat.le_trans ps_V_tl ht'
    have e54' : μ1 54 (S.w - j) = nI (ps_tlS S j) := hP1.2.2 j (by omega)
    have fin := ps_most_fin (G := ps_gG S) (n := S.w) (j := j) (sg := ps_sg S (S.w - (j + 1))) (b := b) (c := c) (by omega) (fun k hk => ps_sg_ok (by omega) hk) a4 a5
    have wr : ∀ (x6 : Int32) (x7 : Value) (μ2 : am_Mem) (b' : Nat), ps_off [55] μ μ2 → ps_Fd S sp μ2 → b' = ps_VS S (j + 1) c → ∃ μ', am_ev (am_call (d + j + 2)) 308 169 [.ref 48, .int (nI (S.w - (j + 1))), .int (nI (ps_en c 7)), .int (nI (ps_key sp (S.w - (j + 1)) (ps_en c 7))), .int (nI r), .int (nI b'), .int x6, x7] [] μ2 = am_ret (some (.int (nI (ps_VS S (j + 1) c)))) μ' ∧ ps_off [55] μ μ' ∧ ps_Fd S sp μ' := by
      intro x6 x7 μ2 b' o hF2 hb'
      have hor : ps_key sp (S.w - (j + 1)) (ps_en c 7) * 2 ^ 3 ||| ps_VS S (j + 1) c = ps_key sp (S.w - (j + 1)) (ps_en c 7) * 8 + ps_VS S (j + 1) c := by
        have := Nat.two_pow_add_eq_or_of_lt (show ps_VS S (j + 1) c < 2 ^ 3 by omega) (ps_key sp (S.w - (j + 1)) (ps_en c 7))
        rw [Nat.mul_comm _ (2 ^ 3), ← this]
      rw [q308_169, am_ixN (by omega), am_gbI hr, hb', show am_c 3 = nI 3 from rfl, am_shl (by omega) (by omega), am_or, hor]
      exact ⟨_, rfl, o.up (by decide), hF2.up hw hj (by omega) hc hsp⟩
    rw [show am_c 0 = nI 0 from rfl, a1, q308_141, show am_c 1 = nI 1 from rfl, nI_add, eh, am_ixN (by omega), am_gbI (by omega), e54']
    by_cases hb : ps_tlS S j ≤ b
    · have fin : b = ps_VS S (j + 1) c := by
        have hb : ps_tl (ps_gG S) S.w j ≤ b := hb
        rw [if_pos hb] at fin
        exact fin
      rw [if_pos (by rw [am_leN (by omega) (by omega)]; exact hb)]
      exact wr i' y7 μ1 b a2 a3 fin
    · have fin : max b (ps_VS S j c) = ps_VS S (j + 1) c := by
        have hb : ¬ ps_tl (ps_gG S) S.w j ≤ b := hb
        rw [if_neg hb] at fin
        exact fin
      obtain ⟨μ2, c1, c2, c3⟩ := ih (by omega) c μ1 hc hP1 h91 a3
      have hVj : ps_VS S j c ≤ 7 := Nat.le_trans ps_V_tl (Nat.le_trans tl0 (by omega))
      rw [if_neg (by rw [am_leN (by omega) (by omega)]; exact hb), c1, am_bI_ret, w2001 (d + j + 1) _ _ (by omega) (by omega), am_bI_ret]
      exact wr i' y7 μ2 _ (a2.tr c2) c3 fin
end Ops27
