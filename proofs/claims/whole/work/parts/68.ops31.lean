/-! most, the model: the tables and the choice -/
section Ops31
variable {S : ps_S}
theorem ps_sh2 {n : Nat} (hn : n ≤ 7) : am_c 1 <<< (am_c 2 * nI n &&& 31) = nI (4 ^ n) := by
  rw [show am_c 1 = nI 1 from rfl, show am_c 2 = nI 2 from rfl, pk_mul, am_shl1 (by omega), ps_four]
theorem v1071_85 (d : Nat) (hw : S.w ≤ 7) (x1 : Int32) (x4 x5 x6 x7 : Value) {m : Nat} : ∀ k t (μ : am_Mem), t + k = 4 ^ S.w → (∀ t', t' < t → μ 69 (16384 * S.w + t') = nI 0) → ∃ μ', am_ev (am_call d) 1071 85 [.ref 56, .int x1, .int (nI S.w), .int (nI t), x4, x5, x6, x7] [] μ = am_ev (am_call d) 1071 113 [.ref 56, .int x1, .int (nI S.w), .int (nI (4 ^ S.w)), x4, x5, x6, x7] [] μ' ∧ ps_off [69] μ μ' ∧ ps_Tt S m 0 μ' := by
  have q7 : 4 ^ S.w ≤ 4 ^ 7 := Nat.pow_le_pow_right (by omega) hw
  intro k
  induction k with
  | zero =>
    intro t μ ht hd
    have ht : t = 4 ^ S.w := ht
    subst ht
    rw [q1071_85, ps_sh2 hw, if_pos (by rw [am_leN (by omega) (by omega)]; omega)]
    exact ⟨μ, rfl, ps_off.rf, fun t' ht' => by rw [Nat.sub_zero]; exact hd t' ht'⟩
  | succ k ih =>
    intro t μ ht hd
    rw [q1071_85, ps_sh2 hw, if_neg (by rw [am_leN (by omega) (by omega)]; omega), show am_c 16384 = nI 16384 from rfl, pk_mul, nI_add, am_ixN (by omega), am_gbI (by omega), am_cN, nI_add]
    obtain ⟨μ', a1, a2, a3⟩ := ih (t + 1) (am_up μ 69 (16384 * S.w + t) (nI 0)) (by omega) (fun t' ht' => by
      by_cases e : t' = t
      · rw [e, am_upS]
      · rw [am_upI (by omega)]; exact hd t' (by omega))
    rw [show am_c 0 = nI 0 from rfl, a1]
    exact ⟨μ', rfl, (ps_off.rf.up (by decide)).tr a2, a3⟩
theorem v1071_140 (d : Nat) (hw : S.w ≤ 7) {m : Nat} (hm1 : 1 ≤ m) (hm : m ≤ 3) {μ : am_Mem} (hG : ps_Gt S μ) {j : Nat} (hj : j + 1 ≤ S.w) (hT : ps_Tt S m j μ) {t : Nat} (ht : t < 4 ^ S.w) : ∀ k s b (x7 : Value), s + k = 2 ^ S.w → b = ps_mx (fun s => if s = 0 then ps_VS S j (ps_rm' m (ps_tq t)) else if ps_gG S (S.w - (j + 1)) s = true ∧ ps_fits S.w (ps_rm' m (ps_tq t)) s = true then 1 + ps_VS S j (ps_sb (ps_rm' m (ps_tq t)) s) else 0) s → ∃ y7, am_ev (am_call (d + 2)) 1071 140 [.ref 56, .int (nI m), .int (nI S.w), .int (nI (S.w - (j + 1))), .int (nI t), .int (nI b), .int (nI s), x7] [] μ = am_ev (am_call (d + 2)) 1071 182 [.ref 56, .int (nI m), .int (nI S.w), .int (nI (S.w - (j + 1))), .int (nI t), .int (nI (ps_VS S (j + 1) (ps_rm' m (ps_tq t)))), .int (nI (2 ^ S.w)), y7] [] μ := by
  have p7 : 2 ^ S.w ≤ 2 ^ 7 := Nat.pow_le_pow_right (by omega) hw
  intro k
  induction k with
  | zero =>
    intro s b x7 hs hb
    have hs : s = 2 ^ S.w := hs
    subst hs
    rw [q1071_140, show am_c 1 = nI 1 from rfl, am_shl1 (by omega), if_pos (by rw [am_leN (by omega) (by omega)]; omega), hb]
    exact ⟨_, rfl⟩
  | succ k ih =>
    intro s b x7 hs hb
    have hV : ∀ c, ps_VS S j c ≤ 7 := fun c => Nat.le_trans ps_V_tl (Nat.le_trans (ps_tl_le _) (by omega))
    have hb8 : b ≤ 8 := by
      rw [hb]
      refine ps_mx_le (fun s _ => ?_)
      have h1 := hV (ps_rm' m (ps_tq t))
      have h2 := hV (ps_sb (ps_rm' m (ps_tq t)) s)
      split
      · omega
      · split <;> omega
    have cl := (m1070 d hw hm1 hm hG hj hT ht (s := s) (by omega)).1
    rw [q1071_140, show am_c 1 = nI 1 from rfl, am_shl1 (by omega), if_neg (by rw [am_leN (by omega) (by omega)]; omega), cl, am_bI_ret, q1071_172, q1071_174, q1071_174, show am_c 1 = nI 1 from rfl, nI_add]
    have step : ∀ v : Nat, v ≤ 8 → ps_bb S j (ps_rm' m (ps_tq t)) s = nI v → (if s = 0 then ps_VS S j (ps_rm' m (ps_tq t)) else if ps_gG S (S.w - (j + 1)) s = true ∧ ps_fits S.w (ps_rm' m (ps_tq t)) s = true then 1 + ps_VS S j (ps_sb (ps_rm' m (ps_tq t)) s) else 0) = v → ∃ y7, (if ps_bb S j (ps_rm' m (ps_tq t)) s ≤ nI b then am_ev (am_call (d + 2)) 1071 140 [.ref 56, .int (nI m), .int (nI S.w), .int (nI (S.w - (j + 1))), .int (nI t), .int (nI b), .int (nI (s + 1)), .int (ps_bb S j (ps_rm' m (ps_tq t)) s)] [] μ else am_ev (am_call (d + 2)) 1071 140 [.ref 56, .int (nI m), .int (nI S.w), .int (nI (S.w - (j + 1))), .int (nI t), .int (ps_bb S j (ps_rm' m (ps_tq t)) s), .int (nI (s + 1)), .int (ps_bb S j (ps_rm' m (ps_tq t)) s)] [] μ) = am_ev (am_call (d + 2)) 1071 182 [.ref 56, .int (nI m), .int (nI S.w), .int (nI (S.w - (j + 1))), .int (nI t), .int (nI (ps_VS S (j + 1) (ps_rm' m (ps_tq t)))), .int (nI (2 ^ S.w)), y7] [] μ := by
      intro v hv e1 e2
      rw [e1]
      by_cases hle : v ≤ b
      · rw [if_pos (by rw [am_leN (by omega) (by omega)]; exact hle)]
        exact ih (s + 1) b _ (by omega) (by rw [ps_mx, ← hb, e2, Nat.max_eq_left hle])
      · rw [if_neg (by rw [am_leN (by omega) (by omega)]; exact hle)]
        exact ih (s + 1) v _ (by omega) (by rw [ps_mx, ← hb, e2, Nat.max_eq_right (by omega)])
    by_cases hs0 : s = 0
    · exact step _ (Nat.le_trans (hV _) (by omega)) (by rw [ps_bb, if_pos hs0]) (by rw [if_pos hs0])
    · by_cases hg : ps_gG S (S.w - (j + 1)) s = true ∧ ps_fits S.w (ps_rm' m (ps_tq t)) s = true
      · exact step (1 + ps_VS S j (ps_sb (ps_rm' m (ps_tq t)) s)) (by have := hV (ps_sb (ps_rm' m (ps_tq t)) s); omega) (by rw [ps_bb, if_neg hs0, if_pos hg]) (by rw [if_neg hs0, if_pos hg])
      · have e1 : ps_bb S j (ps_rm' m (ps_tq t)) s = am_c (-1) := by rw [ps_bb, if_neg hs0, if_neg hg]
        have hle : am_c (-1) ≤ nI b := by
          rw [Int32.le_iff_toInt_le, nI_toInt (by omega), show (am_c (-1)).toInt = -1 from by decide]
          omega
        rw [e1, if_pos hle]
        exact ih (s + 1) b _ (by omega) (by rw [ps_mx, ← hb, if_neg hs0, if_neg hg, Nat.max_eq_left (Nat.zero_le _)])
theorem v1071_124 (d : Nat) (hw : S.w ≤ 7) {m : Nat} (hm1 : 1 ≤ m) (hm : m ≤ 3) {j : Nat} (hj : j + 1 ≤ S.w) : ∀ k t (x5 x6 x7 : Value) (μ : am_Mem), ps_Gt S μ → ps_Tt S m j μ → t + k = 4 ^ S.w → (∀ t', t' < t → μ 69 (16384 * (S.w - (j + 1)) + t') = nI (ps_VS S (j + 1) (ps_rm' m (ps_tq t')))) → ∃ μ' y5 y6 y7, am_ev (am_call (d + 2)) 1071 124 [.ref 56, .int (nI m), .int (nI S.w), .int (nI (S.w - (j + 1))), .int (nI t), x5, x6, x7] [] μ = am_ev (am_call (d + 2)) 1071 203 [.ref 56, .int (nI m), .int (nI S.w), .int (nI (S.w - (j + 1))), .int (nI (4 ^ S.w)), y5, y6, y7] [] μ' ∧ ps_off [69] μ μ' ∧ (∀ i, 16384 * (S.w - j) ≤ i → μ' 69 i = μ 69 i) ∧ ps_Tt S m (j + 1) μ' := by
  have q7 : 4 ^ S.w ≤ 4 ^ 7 := Nat.pow_le_pow_right (by omega) hw
  have p0 : 0 < 2 ^ S.w := Nat.two_pow_pos _
  intro k
  induction k with
  | zero =>
    intro t x5 x6 x7 μ hG hT ht hd
    have ht : t = 4 ^ S.w := ht
    subst ht
    rw [q1071_124, ps_sh2 hw, if_pos (by rw [am_leN (by omega) (by omega)]; omega)]
    exact ⟨μ, _, _, _, rfl, ps_off.rf, fun _ _ => rfl, hd⟩
  | succ k ih =>
    intro t x5 x6 x7 μ hG hT ht hd
    obtain ⟨y7, a1⟩ := v1071_140 d hw hm1 hm hG hj hT (t := t) (by omega) (2 ^ S.w) 0 0 x7 (by omega) rfl
    rw [q1071_124, ps_sh2 hw, if_neg (by rw [am_leN (by omega) (by omega)]; omega), show am_c 0 = nI 0 from rfl, a1, q1071_182, show am_c 16384 = nI 16384 from rfl, pk_mul, nI_add, am_ixN (by omega), am_gbI (by omega), am_cN, nI_add]
    have o1 : ps_off [69] μ (am_up μ 69 (16384 * (S.w - (j + 1)) + t) (nI (ps_VS S (j + 1) (ps_rm' m (ps_tq t))))) := ps_off.rf.up (by decide)
    obtain ⟨μ', y5, y6, y7', b1, b2, b3, b4⟩ := ih (t + 1) (.int (nI (ps_VS S (j + 1) (ps_rm' m (ps_tq t))))) (.int (nI (2 ^ S.w))) y7 (am_up μ 69 (16384 * (S.w - (j + 1)) + t) (nI (ps_VS S (j + 1) (ps_rm' m (ps_tq t))))) (fun h s h1 h2 h3 => by rw [am_upK (by omega)]; exact hG h s h1 h2 h3) (fun t' ht' => by rw [am_upI (by omega)]; exact hT t' ht') (by omega) (fun t' ht' => by
      by_cases e : t' = t
      · rw [e, am_upS]
      · rw [am_upI (by omega)]; exact hd t' (by omega))
    rw [b1]
    exact ⟨μ', y5, y6, y7', rfl, o1.tr b2, fun i hi => by rw [b3 i hi, am_upI (by omega)], b4⟩
theorem v1071_117 (d : Nat) (hw : S.w ≤ 7) {m : Nat} (hm1 : 1 ≤ m) (hm : m ≤ 3) : ∀ k j (x4 x5 x6 x7 : Value) (μ : am_Mem), ps_Gt S μ → (∀ i, i ≤ j → ps_Tt S m i μ) → j + k = S.w → ∃ (μ' : am_Mem) (x3 : Int32) (y4 y5 y6 y7 : Value), am_ev (am_call (d + 2)) 1071 117 [.ref 56, .int (nI m), .int (nI S.w), .int (nI (S.w - j) - nI 1), x4, x5, x6, x7] [] μ = am_ev (am_call (d + 2)) 1071 209 [.ref 56, .int (nI m), .int (nI S.w), .int x3, y4, y5, y6, y7] [] μ' ∧ ps_off [69] μ μ' ∧ ∀ i, i ≤ S.w → ps_Tt S m i μ' := by
  intro k
  induction k with
  | zero =>
    intro j x4 x5 x6 x7 μ hG hT hj
    have hj : j = S.w := hj
    subst hj
    rw [Nat.sub_self, q1071_117, if_pos (by decide)]
    exact ⟨μ, _, _, _, _, _, rfl, ps_off.rf, hT⟩
  | succ k ih =>
    intro j x4 x5 x6 x7 μ hG hT hj
    obtain ⟨h, hh⟩ : ∃ h, S.w - j = h + 1 := ⟨S.w - j - 1, by omega⟩
    obtain ⟨μ1, y5, y6, y7, a1, a2, a3, a4⟩ := v1071_124 d hw hm1 hm (j := j) (by omega) (4 ^ S.w) 0 x5 x6 x7 μ hG (hT j (Nat.le_refl _)) (by omega) (fun t' ht' => by omega)
    rw [show S.w - (j + 1) = h by omega] at a1
    have hm' : nI h + am_c (-1) = nI (S.w - (j + 1)) - nI 1 := by
      rw [show S.w - (j + 1) = h by omega]
      cases h with
      | zero => decide
      | succ h' => rw [show nI (h' + 1) + am_c (-1) = nI h' from pk_m1 _, pk_sub (by omega), Nat.add_sub_cancel]
    obtain ⟨μ', x3, z4, z5, z6, z7, b1, b2, b3⟩ := ih (j + 1) (.int (nI (4 ^ S.w))) y5 y6 y7 μ1 (fun h s h1 h2 h3 => by rw [a2 71 (by decide)]; exact hG h s h1 h2 h3) (fun i hi t ht => by
      by_cases e : i = j + 1
      · rw [e]; exact a4 t ht
      · rw [a3 _ (by omega)]; exact hT i (by omega) t ht) (by omega)
    rw [hh, pk_sub (by omega), Nat.add_sub_cancel, q1071_117, if_neg (nI_pos (by omega)), show am_c 0 = nI 0 from rfl, a1, q1071_203, hm', b1]
    exact ⟨μ', x3, z4, z5, z6, z7, rfl, a2.tr b2, b3⟩
/-- the first set that does -/
theorem v1071_223 (d : Nat) (hw : S.w ≤ 7) {m : Nat} (hm1 : 1 ≤ m) (hm : m ≤ 3) {μ : am_Mem} (hG : ps_Gt S μ) {j : Nat} (hj : j + 1 ≤ S.w) (hT0 : ps_Tt S m j μ) (hT1 : ps_Tt S m (j + 1) μ) {t : Nat} (ht : t < 4 ^ S.w) (x6 x7 : Value) {r : Nat} : ∀ k s, s + k = 2 ^ S.w → 1 ≤ s → (ps_rg k s).find? (fun s => ps_gG S (S.w - (j + 1)) s && ps_pd S j (ps_rm' m (ps_tq t)) s) = some r → am_ev (am_call (d + 2)) 1071 223 [.ref 56, .int (nI m), .int (nI S.w), .int (nI t), .int (nI (S.w - (j + 1))), .int (nI s), x6, x7] [] μ = am_ev (am_call (d + 2)) 1071 255 [.ref 56, .int (nI m), .int (nI S.w), .int (nI t), .int (nI (S.w - (j + 1))), .int (nI r), x6, x7] [] μ := by
  have p7 : 2 ^ S.w ≤ 2 ^ 7 := Nat.pow_le_pow_right (by omega) hw
  have q7 : 4 ^ S.w ≤ 4 ^ 7 := Nat.pow_le_pow_right (by omega) hw
  have hV : ∀ j c, j ≤ S.w → ps_VS S j c ≤ 7 := fun j c hj => Nat.le_trans ps_V_tl (Nat.le_trans (ps_tl_le _) (by omega))
  intro k
  induction k with
  | zero => intro s hs h1 hf; rw [ps_rg, List.find?_nil] at hf; exact absurd hf (by simp)
  | succ k ih =>
    intro s hs h1 hf
    have cl := (m1070 d hw hm1 hm hG hj hT0 ht (s := s) (by omega)).1
    have hV1 := hV (j + 1) (ps_rm' m (ps_tq t)) hj
    have hV0 := hV j (ps_sb (ps_rm' m (ps_tq t)) s) (by omega)
    rw [q1071_223, cl, am_bI_ret, show am_c 16384 = nI 16384 from rfl, pk_mul, nI_add, am_ixN (by omega), am_gbI (by omega), hT1 t ht, ps_bb, if_neg (show ¬ s = 0 by omega)]
    rw [ps_rg] at hf
    by_cases hp : (ps_gG S (S.w - (j + 1)) s && ps_pd S j (ps_rm' m (ps_tq t)) s) = true
    · rw [List.find?_cons_of_pos (p := fun s => ps_gG S (S.w - (j + 1)) s && ps_pd S j (ps_rm' m (ps_tq t)) s) hp] at hf
      have hsr : s = r := Option.some.inj hf
      rw [← hsr]
      rw [ps_pd, Bool.and_eq_true, Bool.and_eq_true] at hp
      have hg2 : ps_gG S (S.w - (j + 1)) s = true ∧ ps_fits S.w (ps_rm' m (ps_tq t)) s = true := ⟨hp.1, hp.2.1⟩
      rw [if_pos hg2, if_pos (by rw [of_decide_eq_true hp.2.2])]
    · rw [List.find?_cons_of_neg (p := fun s => ps_gG S (S.w - (j + 1)) s && ps_pd S j (ps_rm' m (ps_tq t)) s) hp] at hf
      have := ih (s + 1) (by omega) (by omega) hf
      by_cases hg : ps_gG S (S.w - (j + 1)) s = true ∧ ps_fits S.w (ps_rm' m (ps_tq t)) s = true
      · rw [if_pos hg, if_neg (by
          rw [am_eqN (by omega) (by omega)]
          intro e
          exact hp (by rw [ps_pd, hg.1, hg.2, decide_eq_true e]; rfl)), am_cN, nI_add]
        exact this
      · rw [if_neg hg, if_neg (fun e => nI_m1 (show ps_VS S (j + 1) (ps_rm' m (ps_tq t)) < 2147483648 by omega) e.symm), am_cN, nI_add]
        exact this
theorem v1071_214 (d : Nat) (hw : S.w ≤ 7) {m : Nat} (hm1 : 1 ≤ m) (hm : m ≤ 3) (x6 x7 : Value) : ∀ j, j ≤ S.w → ∀ t (x5 : Value) (μ : am_Mem), ps_Gt S μ → (∀ i, i ≤ S.w → ps_Tt S m i μ) → t < 4 ^ S.w → ∃ μ', am_ev (am_call (d + 2)) 1071 214 [.ref 56, .int (nI m), .int (nI S.w), .int (nI t), .int (nI (S.w - j)), x5, x6, x7] [] μ = am_ret none μ' ∧ ps_off [70] μ μ' ∧ (∀ i, i < S.w - j → μ' 70 i = μ 70 i) ∧ ∀ (i s : Nat), (ps_chl S j (ps_rm' m (ps_tq t)))[i]? = some s → μ' 70 (S.w - j + i) = nI s := by
  have p7 : 2 ^ S.w ≤ 2 ^ 7 := Nat.pow_le_pow_right (by omega) hw
  have q7 : 4 ^ S.w ≤ 4 ^ 7 := Nat.pow_le_pow_right (by omega) hw
  have p0 : 0 < 2 ^ S.w := Nat.two_pow_pos _
  have hV : ∀ j c, j ≤ S.w → ps_VS S j c ≤ 7 := fun j c hj => Nat.le_trans ps_V_tl (Nat.le_trans (ps_tl_le _) (by omega))
  intro j
  induction j with
  | zero =>
    intro hj t x5 μ hG hT ht
    rw [q1071_214, if_pos (by rw [am_leN (by omega) (by omega)]; omega), q1071_278]
    exact ⟨μ, rfl, ps_off.rf, fun _ _ => rfl, fun i s hs => by simp [ps_chl] at hs⟩
  | succ j ih =>
    intro hj t x5 μ hG hT ht
    have eh : S.w - (j + 1) + 1 = S.w - j := by omega
    have hV1 := hV (j + 1) (ps_rm' m (ps_tq t)) hj
    have hV0 := hV j (ps_rm' m (ps_tq t)) (by omega)
    -- the set that is chosen
    have sel : am_ev (am_call (d + 2)) 1071 223 [.ref 56, .int (nI m), .int (nI S.w), .int (nI t), .int (nI (S.w - (j + 1))), .int (nI 0), x6, x7] [] μ = am_ev (am_call (d + 2)) 1071 255 [.ref 56, .int (nI m), .int (nI S.w), .int (nI t), .int (nI (S.w - (j + 1))), .int (nI (ps_cn S j (ps_rm' m (ps_tq t)))), x6, x7] [] μ := by
      have cl := (m1070 d hw hm1 hm hG hj (hT j (by omega)) ht (s := 0) p0).1
      rw [q1071_223, cl, am_bI_ret, show am_c 16384 = nI 16384 from rfl, pk_mul, nI_add, am_ixN (by omega), am_gbI (by omega), hT (j + 1) hj t ht, ps_bb, if_pos rfl, ps_cn]
      by_cases e : ps_VS S j (ps_rm' m (ps_tq t)) = ps_VS S (j + 1) (ps_rm' m (ps_tq t))
      · rw [if_pos (by rw [e]), if_pos e]
      · rw [if_neg (by rw [am_eqN (by omega) (by omega)]; exact e), if_neg e, am_cN, nI_add]
        have hl : ps_lset S j (ps_rm' m (ps_tq t)) = ((ps_rg (2 ^ S.w - 1) 1).find? (fun s => ps_gG S (S.w - (j + 1)) s && ps_pd S j (ps_rm' m (ps_tq t)) s)).getD 0 := by
          rw [ps_lset, ps_slS, ps_sl, List.find?_filter]
          congr 2
          funext a
          cases ps_gG S (S.w - (j + 1)) a <;> cases ps_pd S j (ps_rm' m (ps_tq t)) a <;> rfl
        have hcn : ps_cn S j (ps_rm' m (ps_tq t)) ≠ 0 := fun z => e ((ps_nc_V (S := S) (j := j) (c := ps_rm' m (ps_tq t))).1 z)
        rw [ps_cn, if_neg e] at hcn
        rw [hl] at hcn ⊢
        cases hf : (ps_rg (2 ^ S.w - 1) 1).find? (fun s => ps_gG S (S.w - (j + 1)) s && ps_pd S j (ps_rm' m (ps_tq t)) s) with
        | none => rw [hf] at hcn; exact absurd rfl hcn
        | some r => exact v1071_223 d hw hm1 hm hG hj (hT j (by omega)) (hT (j + 1) hj) ht x6 x7 (2 ^ S.w - 1) 1 (by omega) (Nat.le_refl _) hf
    obtain ⟨c, hc⟩ : ∃ c, c = ps_cn S j (ps_rm' m (ps_tq t)) := ⟨_, rfl⟩
    have hcw : c < 2 ^ S.w := by
      rw [hc]
      by_cases hz : ps_cn S j (ps_rm' m (ps_tq t)) = 0
      · omega
      · exact (ps_cn_ok hz).2.1
    have hG1 : ps_Gt S (am_up μ 70 (S.w - (j + 1)) (nI c)) := fun h s h1 h2 h3 => by rw [am_upK (by omega)]; exact hG h s h1 h2 h3
    have hT1 : ∀ i, i ≤ S.w → ps_Tt S m i (am_up μ 70 (S.w - (j + 1)) (nI c)) := fun i hi t' ht' => by rw [am_upK (by omega)]; exact hT i hi t' ht'
    obtain ⟨t', k1, k2, k3⟩ := (m1070 (d + 1) hw hm1 hm hG1 hj (hT1 j (by omega)) ht (s := c) hcw).2 (by
      by_cases hz : c = 0
      · exact Or.inr hz
      · have ok := ps_cn_ok (show ps_cn S j (ps_rm' m (ps_tq t)) ≠ 0 by rw [← hc]; exact hz)
        rw [← hc] at ok
        exact Or.inl ⟨(ps_sl_mem.mp ok.1).2, ok.2.2.1⟩)
    obtain ⟨μ', b1, b2, b3, b4⟩ := ih (by omega) t' (.int (nI c)) (am_up μ 70 (S.w - (j + 1)) (nI c)) hG1 hT1 k1
    rw [q1071_214, if_neg (by rw [am_leN (by omega) (by omega)]; omega), show am_c 0 = nI 0 from rfl, sel, ← hc, q1071_255, am_ixN (by omega), am_gbI (by omega), k2, am_bI_ret, show am_c 1 = nI 1 from rfl, nI_add, eh, b1]
    refine ⟨μ', rfl, (ps_off.rf.up (by decide)).tr b2, fun i hi => by rw [b3 i (by omega), am_upI (by omega)], fun i x hx => ?_⟩
    cases i with
    | zero =>
      rw [ps_chl, List.getElem?_cons_zero] at hx
      cases hx
      rw [Nat.add_zero, b3 _ (by omega), am_upS, hc]
    | succ i =>
      rw [ps_chl, List.getElem?_cons_succ] at hx
      rw [show S.w - (j + 1) + (i + 1) = S.w - j + i by omega]
      refine b4 i x ?_
      rw [← hx]
      congr 1
      refine ps_chl_congr j (fun k hk => ?_)
      rw [k3 k hk]
      unfold ps_nc
      rw [← hc]
      by_cases hz : c = 0
      · rw [if_pos hz, hz]
        show ps_rm' m (ps_tq t) k - ((0 : Nat).testBit k).toNat = _
        rw [Nat.zero_testBit]
        rfl
      · rw [if_neg hz]
theorem v1071 (d : Nat) (hW : ps_Wf S) (hlw : ps_Lw S.law) (hw : S.w ≤ 7) {m : Nat} (hm1 : 1 ≤ m) (hm : m ≤ 3) {μ : am_Mem} (hR : ps_Rm 57 S μ) (hL : ps_Lm 57 S.law μ) : ∃ μ', am_call (d + 4) 1071 [.ref 56, .int (nI m)] μ = am_ret none μ' ∧ ps_off [64, 65, 69, 70, 71] μ μ' ∧ μ' 69 0 = nI (ps_VS S S.w (ps_c0 S m)) ∧ ∀ (i s : Nat), (ps_chl S S.w (ps_c0 S m))[i]? = some s → μ' 70 i = nI s := by
  obtain ⟨μ1, y4, a1, a2, a3⟩ := v1071_9 d hW hlw hw (nI m) .null .null .null S.w 0 .null μ hR hL (by omega) (fun h' s hh' => by omega)
  obtain ⟨μ2, b1, b2, b3⟩ := v1071_85 (S := S) (d + 3) hw (nI m) y4 .null .null .null (m := m) (4 ^ S.w) 0 μ1 (by omega) (fun t' ht' => by omega)
  have hG2 : ps_Gt S μ2 := fun h s h1 h2 h3 => by rw [b2 71 (by decide)]; exact a3 h s h1 h2 h3
  obtain ⟨μ3, x3, z4, z5, z6, z7, c1, c2, c3⟩ := v1071_117 (d + 1) hw hm1 hm S.w 0 y4 .null .null .null μ2 hG2 (fun i hi => by
    have hi : i = 0 := by omega
    subst hi
    exact b3) (by omega)
  rw [Nat.sub_zero] at c1
  have q0 : 0 < 4 ^ S.w := Nat.pow_pos (by omega)
  obtain ⟨μ4, e1, e2, e3, e4⟩ := v1071_214 (d + 1) hw hm1 hm z6 z7 S.w (Nat.le_refl _) 0 z5 μ3 (fun h s h1 h2 h3 => by rw [c2 71 (by decide)]; exact hG2 h s h1 h2 h3) c3 q0
  rw [Nat.sub_self] at e1 e3 e4
  have hcc : ∀ k, k < S.w → ps_rm' m (ps_tq 0) k = ps_c0 S m k := fun k hk => by
    show m - 0 / 4 ^ k % 4 = m * ((2 ^ S.w - 1).testBit k).toNat
    rw [Nat.testBit_two_pow_sub_one, decide_eq_true hk, Nat.zero_div]
    show m - 0 = m * 1
    omega
  rw [e1071, q1071_0, show μ 57 0 = nI S.w from hR.1, show am_c 0 = nI 0 from rfl, a1, q1071_83, show am_c 0 = nI 0 from rfl, b1, q1071_113, am_cN, c1, q1071_209, show am_c 0 = nI 0 from rfl, e1]
  refine ⟨μ4, rfl, (((a2.mono (by simp)).tr (b2.mono (by simp))).tr (c2.mono (by simp))).tr (e2.mono (by simp)), ?_, fun i s hs => ?_⟩
  · rw [e2 69 (by decide)]
    have := c3 S.w (Nat.le_refl _) 0 q0
    rw [Nat.sub_self] at this
    rw [show ps_VS S S.w (ps_c0 S m) = ps_VS S S.w (ps_rm' m (ps_tq 0)) from (ps_V_congr hcc).symm]
    exact this
  · have := e4 i s (by rw [ps_chl_congr S.w hcc]; exact hs)
    rw [Nat.zero_add] at this
    exact this
end Ops31
theorem M_most (d : Nat) (O : ps_O) (hO : ps_Ow O) (x y : Int32) : ps_sM (d + 5) 1072 [.ref 56, .int x, .int y] O (some (.int (ps_most O x y))) O := by
  intro μ h
  have hW := hO.1
  have hw16 : O.S.w ≤ 16 := hW.1
  have r1 : μ 57 0 = nI O.S.w := h.1.1
  rw [e1072, q1072_0, show am_c 1 = nI 1 from rfl, show am_c 3 = nI 3 from rfl, m1001c (d + 3) x (by omega) (by omega), am_bI_ret, r1, show am_c 7 = nI 7 from rfl, show am_c 10 = nI 10 from rfl, show am_c 9 = nI 9 from rfl, nI_add, m1001c (d + 3) y (by omega) (by omega), am_bI_ret, q1072_42, ps_most]
  by_cases hx : 1 ≤ am_ix x ∧ am_ix x ≤ 3
  · rw [decide_eq_true hx, if_neg (by decide)]
    by_cases hw : O.S.w ≤ 7
    · rw [if_neg (by rw [am_ltN (by omega) (by omega)]; omega)]
      obtain ⟨m, hm, rfl⟩ : ∃ a, a ≤ 3 ∧ x = nI a := ⟨am_ix x, hx.2, (am_nIx x).symm⟩
      rw [am_ixN (by omega)] at hx ⊢
      obtain ⟨μ1, a1, a2, a3, a4⟩ := v1071 d hW hO.2.1 hw hx.1 hm h.1 h.2.1
      have sc : ps_scM μ μ1 := ps_scM.of a2 rfl
      have go : am_ev (am_call (d + 4)) 1072 44 [.ref 56, .int (nI m), .int y] [] μ = if y = 0 then am_ret (some (.int (nI (ps_VS O.S O.S.w (ps_c0 O.S m))))) μ1 else am_gb (Nat.blt (am_ix (y - nI 10)) 7) (am_ret (some (.int (μ1 70 (am_ix (y - nI 10))))) μ1) := by
        rw [q1072_44, a1, am_bV_ret, q1072_62, q1072_71, q1072_71, a3]
        rfl
      by_cases y0 : y = 0
      · have hy0 : am_ix y = 0 := by rw [y0]; rfl
        rw [if_pos y0, go, if_pos y0, if_pos ⟨hx, hw, Or.inl hy0⟩, if_pos hy0]
        exact ⟨μ1, rfl, sc.I h, sc.k⟩
      · have hy0 : ¬ am_ix y = 0 := fun e => y0 (am_ix_inj (y := 0) e)
        rw [if_neg y0]
        by_cases hy : 10 ≤ am_ix y ∧ am_ix y ≤ 9 + O.S.w
        · have e10 : am_ix (y - nI 10) = am_ix y - 10 := by
            have : y - nI 10 = nI (am_ix y - 10) := by
              rw [← am_nIx y, am_ixN (am_ix_lt y), pk_sub (by omega)]
            rw [this, am_ixN (by omega)]
          have hlt : am_ix y - 10 < (ps_chl O.S O.S.w (ps_c0 O.S m)).length := by rw [ps_chl_len]; omega
          rw [decide_eq_true hy, if_neg (by decide), go, if_neg y0, e10, am_gbI (by omega), if_pos ⟨hx, hw, Or.inr (by omega)⟩, if_neg hy0, List.getElem?_eq_getElem hlt, a4 _ _ (List.getElem?_eq_getElem hlt)]
          exact ⟨μ1, rfl, sc.I h, sc.k⟩
        · rw [decide_eq_false hy, if_pos (by decide), if_neg (by omega)]
          exact ⟨μ, rfl, h, ps_kM.rf⟩
    · rw [if_pos (by rw [am_ltN (by omega) (by omega)]; omega), if_neg (fun z => hw z.2.1)]
      exact ⟨μ, rfl, h, ps_kM.rf⟩
  · rw [decide_eq_false hx, if_pos (by decide), if_neg (fun z => hx z.1)]
    exact ⟨μ, rfl, h, ps_kM.rf⟩
