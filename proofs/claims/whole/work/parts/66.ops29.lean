variable {bG : Nat}
/-! most, the component: the choice, the whole -/
def ps_pd (S : ps_S) (j : Nat) (c : Nat → Nat) (s : Nat) : Bool := ps_fits S.w c s && decide (1 + ps_VS S j (ps_sb c s) = ps_VS S (j + 1) c)
def ps_lset (S : ps_S) (j : Nat) (c : Nat → Nat) : Nat := ((ps_slS S (S.w - (j + 1))).find? (ps_pd S j c)).getD 0
def ps_cn (S : ps_S) (j : Nat) (c : Nat → Nat) : Nat := if ps_VS S j c = ps_VS S (j + 1) c then 0 else ps_lset S j c
def ps_nc (S : ps_S) (j : Nat) (c : Nat → Nat) : Nat → Nat := if ps_cn S j c = 0 then c else ps_sb c (ps_cn S j c)
def ps_chl (S : ps_S) : Nat → (Nat → Nat) → List Nat
  | 0, _ => []
  | j + 1, c => ps_cn S j c :: ps_chl S j (ps_nc S j c)
section Ops29
variable {S : ps_S}
theorem ps_cn_ok {j : Nat} {c : Nat → Nat} (h : ps_cn S j c ≠ 0) : ps_cn S j c ∈ ps_slS S (S.w - (j + 1)) ∧ ps_cn S j c < 2 ^ S.w ∧ ps_fits S.w c (ps_cn S j c) = true ∧ 1 + ps_VS S j (ps_sb c (ps_cn S j c)) = ps_VS S (j + 1) c := by
  unfold ps_cn at h ⊢
  by_cases he : ps_VS S j c = ps_VS S (j + 1) c
  · rw [if_pos he] at h
    exact absurd rfl h
  · rw [if_neg he] at h ⊢
    unfold ps_lset at h ⊢
    cases hf : (ps_slS S (S.w - (j + 1))).find? (ps_pd S j c) with
    | none => rw [hf] at h; exact absurd rfl h
    | some s =>
      have h1 := List.mem_of_find?_eq_some hf
      have h2 := List.find?_some hf
      rw [ps_pd, Bool.and_eq_true] at h2
      exact ⟨h1, (ps_sl_mem.mp h1).1.2, h2.1, of_decide_eq_true h2.2⟩
theorem ps_nc_V {j : Nat} {c : Nat → Nat} : (ps_cn S j c = 0 → ps_VS S j c = ps_VS S (j + 1) c) ∧ ps_VS S j (ps_nc S j c) = (if ps_cn S j c = 0 then ps_VS S (j + 1) c else ps_VS S (j + 1) c - 1) := by
  have h0 : ps_cn S j c = 0 → ps_VS S j c = ps_VS S (j + 1) c := by
    intro h
    unfold ps_cn at h
    by_cases he : ps_VS S j c = ps_VS S (j + 1) c
    · exact he
    · rw [if_neg he] at h
      rcases ps_V_ex (G := ps_gG S) (n := S.w) (j := j) (c := c) with hx | ⟨s, s1, s2, s3, s4, s5⟩
      · exact hx.symm
      · have hm : s ∈ ps_slS S (S.w - (j + 1)) := ps_sl_mem.mpr ⟨⟨s1, s2⟩, s3⟩
        have hp : ps_pd S j c s = true := by
          rw [ps_pd, s4, Bool.true_and]
          exact decide_eq_true s5.symm
        unfold ps_lset at h
        cases hf : (ps_slS S (S.w - (j + 1))).find? (ps_pd S j c) with
        | none =>
          have := List.find?_eq_none.mp hf s hm
          exact absurd hp this
        | some t =>
          rw [hf] at h
          have h1 := ps_sl_mem.mp (List.mem_of_find?_eq_some hf)
          exact absurd h h1.1.1
  refine ⟨h0, ?_⟩
  unfold ps_nc
  by_cases hz : ps_cn S j c = 0
  · rw [if_pos hz, if_pos hz]
    exact h0 hz
  · rw [if_neg hz, if_neg hz]
    have := (ps_cn_ok hz).2.2.2
    omega
theorem ps_nc_le {j : Nat} {c : Nat → Nat} (hc : ∀ k, k < 7 → c k ≤ 3) : ∀ k, k < 7 → ps_nc S j c k ≤ 3 := fun k hk => by
  unfold ps_nc
  split
  · exact hc k hk
  · exact Nat.le_trans (Nat.sub_le _ _) (hc k hk)
theorem ps_Fd.fresh {sp : Nat} {μ1 : am_Mem} (hf : ∀ i, i < 4096 → am_ix (μ1 55 i) / 1048576 ≤ sp) : ps_Fd S (sp + 1) (am_up μ1 48 9 (nI (sp + 1))) := by
  intro i hi
  rw [am_upK (by omega)]
  have h1 := hf i hi
  refine ⟨by omega, fun j c hj hc hk => ?_⟩
  have hl : ps_en c 7 < 2 ^ 14 := ps_en_lt hc
  unfold ps_key at hk
  omega
theorem w311 (d : Nat) (hw : S.w ≤ 7) {sp : Nat} (hsp : sp ≤ 2047) {j : Nat} (hj : j + 1 ≤ S.w) {c : Nat → Nat} (hc : ∀ k, k < 7 → c k ≤ 3) : ∀ {μ : am_Mem}, ps_Pm S μ → μ 48 9 = nI sp → ps_Fd S sp μ → ∃ μ', am_call (d + j + 3) 311 [.ref 48, .int (nI (S.w - (j + 1))), .int (nI (ps_en c 7)), .int (nI (ps_VS S (j + 1) c))] μ = am_ret (some (.int (nI (ps_lset S j c)))) μ' ∧ ps_off [55] μ μ' ∧ ps_Fd S sp μ' := by
  have hh : S.w - (j + 1) < S.w := by omega
  have hlen := ps_sl_len hw hh
  have p7 : 2 ^ S.w ≤ 2 ^ 7 := Nat.pow_le_pow_right (by omega) hw
  have hl : ps_en c 7 < 2 ^ 14 := ps_en_lt hc
  have eh : S.w - (j + 1) + 1 = S.w - j := by omega
  have hVle : ps_VS S (j + 1) c ≤ 7 := Nat.le_trans ps_V_tl (Nat.le_trans (ps_tl_le _) (by omega))
  have lp : ∀ m i (x5 x6 : Value) (μ : am_Mem), i + m = (ps_slS S (S.w - (j + 1))).length → ps_Pm S μ → μ 48 9 = nI sp → ps_Fd S sp μ → ∃ μ', am_ev (am_call (d + j + 2)) 311 3 [.ref 48, .int (nI (S.w - (j + 1))), .int (nI (ps_en c 7)), .int (nI (ps_VS S (j + 1) c)), .int (nI i), x5, x6] [] μ = am_ret (some (.int (nI ((((ps_slS S (S.w - (j + 1))).drop i).find? (ps_pd S j c)).getD 0)))) μ' ∧ ps_off [55] μ μ' ∧ ps_Fd S sp μ' := by
    intro m
    induction m with
    | zero =>
      intro i x5 x6 μ hi hP h9 hF
      have hi : i = (ps_slS S (S.w - (j + 1))).length := hi
      rw [q311_3, am_ixN (by omega), am_gbI (by omega), (hP.2.1 _ hh).1, if_pos (by rw [am_leN (by omega) (by omega)]; omega), q311_70, hi, List.drop_length]
      exact ⟨μ, rfl, ps_off.rf, hF⟩
    | succ m ih =>
      intro i x5 x6 μ hi hP h9 hF
      have hlt : i < (ps_slS S (S.w - (j + 1))).length := by omega
      have hget := List.getElem?_eq_getElem hlt
      obtain ⟨⟨s1, s2⟩, s3⟩ := ps_sl_mem.mp (List.getElem_mem hlt)
      have h50 := (hP.2.1 _ hh).2.2.1 i _ hget
      rw [ps_drop_cons hlt]
      generalize (ps_slS S (S.w - (j + 1)))[i] = s at *
      have hbl : ps_en (ps_bits s) 7 < 2 ^ 14 := ps_en_lt (fun k _ => Nat.le_trans (ps_bits_le s k) (by omega))
      rw [q311_3, am_ixN (by omega), am_gbI (by omega), (hP.2.1 _ hh).1, if_neg (by rw [am_leN (by omega) (by omega)]; omega), show am_c 21 = nI 21 from rfl, pk_mul, nI_add, am_ixN (by omega), am_gbI (by omega), h50, w306 (d + j + 1) (by omega), am_bI_ret, w307 (d + j + 1) hc hw s2, am_bI_ret]
      have nx : ∀ (μ1 : am_Mem) (x5 x6 : Int32), ps_off [55] μ μ1 → ps_Fd S sp μ1 → ps_pd S j c s = false → ∃ μ', am_ev (am_call (d + j + 2)) 311 64 [.ref 48, .int (nI (S.w - (j + 1))), .int (nI (ps_en c 7)), .int (nI (ps_VS S (j + 1) c)), .int (nI i), .int x5, .int x6] [] μ1 = am_ret (some (.int (nI (((s :: (ps_slS S (S.w - (j + 1))).drop (i + 1)).find? (ps_pd S j c)).getD 0)))) μ' ∧ ps_off [55] μ μ' ∧ ps_Fd S sp μ' := by
        intro μ1 x5 x6 o1 hF1 hp
        obtain ⟨μ', a1, a2, a3⟩ := ih (i + 1) (.int x5) (.int x6) μ1 (by omega) (hP.off (fun K hK => o1 K (by simp; omega))) (by rw [o1 48 (by decide)]; exact h9) hF1
        rw [q311_64, am_cN, nI_add, a1, List.find?_cons_of_neg (by simp [hp])]
        exact ⟨μ', rfl, o1.tr a2, a3⟩
      cases hf : ps_fits S.w c s with
      | false =>
        rw [if_pos (by decide)]
        exact nx μ _ _ ps_off.rf hF (by rw [ps_pd, hf]; rfl)
      | true =>
        have hsb := ps_en_sb (c := c) (s := s) (n := 7) ((ps_fits7 hw s2).mpr hf)
        have hc' : ∀ k, k < 7 → ps_sb c s k ≤ 3 := fun k hk => Nat.le_trans (Nat.sub_le _ _) (hc k hk)
        obtain ⟨μ1, a1, a2, a3⟩ := w308 d hw hsp j (by omega) (ps_sb c s) μ hc' hP h9 hF
        have hV7 : ps_VS S j (ps_sb c s) ≤ 7 := Nat.le_trans ps_V_tl (Nat.le_trans (ps_tl_le _) (by omega))
        rw [if_neg (by decide), show am_c 1 = nI 1 from rfl, nI_add, eh, pk_sub (by omega), show ps_en c 7 - ps_en (ps_bits s) 7 = ps_en (ps_sb c s) 7 by omega, a1, am_bI_ret, nI_add]
        by_cases hd : 1 + ps_VS S j (ps_sb c s) = ps_VS S (j + 1) c
        · have hp : ps_pd S j c s = true := by rw [ps_pd, hf, decide_eq_true hd]; rfl
          rw [if_pos (by rw [hd]), List.find?_cons_of_pos hp]
          exact ⟨μ1, rfl, a2, a3⟩
        · rw [if_neg (by rw [am_eqN (by omega) (by omega)]; exact hd)]
          exact nx μ1 _ _ a2 a3 (by rw [ps_pd, hf, decide_eq_false hd]; rfl)
  intro μ hP h9 hF
  rw [e311, q311_0]
  exact lp (ps_slS S (S.w - (j + 1))).length 0 _ _ μ (by omega) hP h9 hF
theorem w310 (d : Nat) (hw : S.w ≤ 7) {sp : Nat} (hsp : sp ≤ 2047) (x1 : Int32) : ∀ j, j ≤ S.w → ∀ (c : Nat → Nat) (μ : am_Mem), (∀ k, k < 7 → c k ≤ 3) → ps_Pm S μ → μ 48 9 = nI sp → ps_Fd S sp μ → ∃ μ', am_ev (am_call (d + S.w + 3)) 310 10 [.ref 48, .int x1, .int (nI (ps_en c 7)), .int (nI (ps_VS S j c)), .int (nI (S.w - j))] [] μ = am_ret none μ' ∧ ps_off [49, 55] μ μ' ∧ (∀ i, i < S.w - j → μ' 49 i = μ 49 i) ∧ (∀ (i s : Nat), (ps_chl S j c)[i]? = some s → μ' 49 (S.w - j + i) = nI s) ∧ ps_Fd S sp μ' := by
  have p7 : 2 ^ S.w ≤ 2 ^ 7 := Nat.pow_le_pow_right (by omega) hw
  intro j
  induction j with
  | zero =>
    intro hj c μ hc hP h9 hF
    rw [q310_10, hP.1, if_pos (by rw [am_leN (by omega) (by omega)]; omega), q310_83]
    exact ⟨μ, rfl, ps_off.rf, fun _ _ => rfl, fun i s hs => by simp [ps_chl] at hs, hF⟩
  | succ j ih =>
    intro hj c μ hc hP h9 hF
    have eh : S.w - (j + 1) + 1 = S.w - j := by omega
    have hl : ps_en c 7 < 2 ^ 14 := ps_en_lt hc
    have hV1 : ps_VS S (j + 1) c ≤ 7 := Nat.le_trans ps_V_tl (Nat.le_trans (ps_tl_le _) (by omega))
    have hV0 : ps_VS S j c ≤ 7 := Nat.le_trans ps_V_tl (Nat.le_trans (ps_tl_le _) (by omega))
    obtain ⟨μ1, a1, a2, a3⟩ := w308 (d + (S.w - j) + 1) hw hsp j (by omega) c μ hc hP h9 hF
    rw [show d + (S.w - j) + 1 + j + 2 = d + S.w + 3 by omega] at a1
    have hP1 : ps_Pm S μ1 := hP.off (fun K hK => a2 K (by simp; omega))
    have h91 : μ1 48 9 = nI sp := by rw [a2 48 (by decide)]; exact h9
    have fin : ∀ (μ2 : am_Mem) (s : Nat), s = ps_cn S j c → ps_off [55] μ μ2 → ps_Fd S sp μ2 → ∃ μ', am_ev (am_call (d + S.w + 3)) 310 50 [.ref 48, .int x1, .int (nI (ps_en c 7)), .int (nI (ps_VS S (j + 1) c)), .int (nI (S.w - (j + 1)))] [.int (nI s), .int (nI (S.w - (j + 1))), .ref 49] μ2 = am_ret none μ' ∧ ps_off [49, 55] μ μ' ∧ (∀ i, i < S.w - (j + 1) → μ' 49 i = μ 49 i) ∧ (∀ (i s : Nat), (ps_chl S (j + 1) c)[i]? = some s → μ' 49 (S.w - (j + 1) + i) = nI s) ∧ ps_Fd S sp μ' := by
      intro μ2 s hs o2 hF2
      have hs7 : s < 128 := by
        rw [hs]
        by_cases hz : ps_cn S j c = 0
        · omega
        · have := (ps_cn_ok hz).2.1
          omega
      have hP3 : ps_Pm S (am_up μ2 49 (S.w - (j + 1)) (nI s)) := hP.off (fun K hK => by rw [am_up_ne (by omega), o2 K (by simp; omega)])
      have h93 : am_up μ2 49 (S.w - (j + 1)) (nI s) 48 9 = nI sp := by rw [am_upK (by omega), o2 48 (by decide)]; exact h9
      have hF3 : ps_Fd S sp (am_up μ2 49 (S.w - (j + 1)) (nI s)) := fun i hi => by rw [am_upK (by omega)]; exact hF2 i hi
      obtain ⟨μ', e1, e2, e3, e4, e5⟩ := ih (by omega) (ps_nc S j c) (am_up μ2 49 (S.w - (j + 1)) (nI s)) (ps_nc_le hc) hP3 h93 hF3
      have res : ps_off [49, 55] μ μ' ∧ (∀ i, i < S.w - (j + 1) → μ' 49 i = μ 49 i) ∧ (∀ (i s : Nat), (ps_chl S (j + 1) c)[i]? = some s → μ' 49 (S.w - (j + 1) + i) = nI s) ∧ ps_Fd S sp μ' := by
        refine ⟨((o2.mono (by simp)).up (by decide)).tr e2, fun i hi => ?_, fun i x hx => ?_, e5⟩
        · rw [e3 i (by omega), am_upI (by omega), o2 49 (by decide)]
        · cases i with
          | zero =>
            rw [ps_chl, List.getElem?_cons_zero] at hx
            cases hx
            rw [Nat.add_zero, e3 _ (by omega), am_upS, hs]
          | succ i =>
            rw [ps_chl, List.getElem?_cons_succ] at hx
            rw [show S.w - (j + 1) + (i + 1) = S.w - j + i by omega]
            exact e4 i x hx
      have nv := (ps_nc_V (S := S) (j := j) (c := c)).2
      rw [q310_50, am_ixN (by omega), am_gbI (by omega), am_gbI (by omega), am_upS]
      by_cases hz : s = 0
      · have hcn : ps_cn S j c = 0 := by rw [← hs]; exact hz
        have en : ps_nc S j c = c := by unfold ps_nc; rw [if_pos hcn]
        rw [if_pos hcn] at nv
        rw [if_pos (by rw [hz]; decide), q310_77, am_cN, nI_add, eh]
        rw [nv, en] at e1
        rw [e1]
        exact ⟨μ', rfl, res⟩
      · have hcn : ps_cn S j c ≠ 0 := by rw [← hs]; exact hz
        have ok := ps_cn_ok hcn
        have en : ps_nc S j c = ps_sb c s := by unfold ps_nc; rw [if_neg hcn, ← hs]
        rw [if_neg hcn] at nv
        have hV2 : 1 ≤ ps_VS S (j + 1) c := by have := ok.2.2.2; omega
        have hfit := (ps_fits7 hw ok.2.1).mpr ok.2.2.1
        rw [← hs] at hfit
        have hsb := ps_en_sb (c := c) (s := s) (n := 7) hfit
        obtain ⟨v, hv⟩ : ∃ v, ps_VS S (j + 1) c = v + 1 := ⟨ps_VS S (j + 1) c - 1, by omega⟩
        rw [if_neg (by rw [am_eq0 (by omega)]; exact hz), am_gbI (by omega), w306 (d + S.w + 2) (by omega), am_bI_ret, q310_77, pk_sub (by omega), show ps_en c 7 - ps_en (ps_bits s) 7 = ps_en (ps_sb c s) 7 by omega, show am_c 1 = nI 1 from rfl, nI_add, eh, hv, show nI (v + 1) + am_c (-1) = nI v from pk_m1 _]
        rw [nv, en, hv, Nat.add_sub_cancel] at e1
        rw [e1]
        exact ⟨μ', rfl, res⟩
    rw [q310_10, hP.1, if_neg (by rw [am_leN (by omega) (by omega)]; omega), show am_c 1 = nI 1 from rfl, nI_add, eh, a1, am_bI_ret]
    by_cases hd : ps_VS S j c = ps_VS S (j + 1) c
    · rw [if_pos (by rw [hd])]
      exact fin μ1 0 (by unfold ps_cn; rw [if_pos hd]) a2 a3
    · obtain ⟨μ2, b1, b2, b3⟩ := w311 (d + (S.w - j)) hw hsp (j := j) hj hc hP1 h91 a3
      rw [show d + (S.w - j) + j + 3 = d + S.w + 3 by omega] at b1
      rw [if_neg (by rw [am_eqN (by omega) (by omega)]; exact hd), q310_42, b1, am_bI_ret]
      exact fin μ2 _ (by unfold ps_cn; rw [if_neg hd]) (a2.tr b2) b3
theorem ps_en_mul {c : Nat → Nat} (m : Nat) : ∀ (n : Nat), m * ps_en c n = ps_en (fun k => m * c k) n
  | 0 => rfl
  | n + 1 => by rw [ps_en, ps_en, Nat.mul_add, ps_en_mul m n, Nat.mul_assoc]
/-- so many uses of each word -/
def ps_c0 (S : ps_S) (m : Nat) : Nat → Nat := fun k => m * ps_bits (2 ^ S.w - 1) k
theorem w301 (d : Nat) (hW : ps_Wf S) (hlw : ps_Lw S.law) (hw : S.w ≤ 7) {m : Nat} (hm : m ≤ 3) {sp : Nat} (hsp : sp + 1 ≤ 2047) {μ : am_Mem} (hR : ps_Rc 1 S μ) (hL : ps_Lc 7 S.law μ) (h9 : μ 48 9 = nI sp) (hf : ∀ i, i < 4096 → am_ix (μ 55 i) / 1048576 ≤ sp) : ∃ μ', am_call (d + S.w + 8) 301 [.ref 48, .ref 1, .int (nI m)] μ = am_ret none μ' ∧ ps_off [11, 12, 48, 49, 50, 51, 52, 53, 54, 55] μ μ' ∧ μ' 48 0 = nI (ps_VS S S.w (ps_c0 S m)) ∧ (∀ (i s : Nat), (ps_chl S S.w (ps_c0 S m))[i]? = some s → μ' 49 i = nI s) ∧ μ' 48 9 = nI (sp + 1) ∧ ∀ i, i < 4096 → am_ix (μ' 55 i) / 1048576 ≤ sp + 1 := by
  have p7 : 2 ^ S.w ≤ 2 ^ 7 := Nat.pow_le_pow_right (by omega) hw
  have p0 : 1 ≤ 2 ^ S.w := Nat.one_le_two_pow
  have hc : ∀ k, k < 7 → ps_c0 S m k ≤ 3 := fun k hk => by
    have h1 := ps_bits_le (2 ^ S.w - 1) k
    have h2 : m * ps_bits (2 ^ S.w - 1) k ≤ m * 1 := Nat.mul_le_mul_left _ h1
    show m * ps_bits (2 ^ S.w - 1) k ≤ 3
    omega
  have r1 : μ 1 4 = nI S.w := hR.1
  have s0 : ∀ K, K ≠ 48 → am_up μ 48 2 (nI S.w) K = μ K := fun K hK => am_up_ne hK
  have hR0 : ps_Rc 1 S (am_up μ 48 2 (nI S.w)) := hR.off (fun k hk => s0 _ (by omega))
  have hL0 : ps_Lc 7 S.law (am_up μ 48 2 (nI S.w)) := hL.off (s0 _ (by omega)) (s0 _ (by omega)) (s0 _ (by omega)) (s0 _ (by omega))
  obtain ⟨μ1, a1, a2, a3⟩ := w303 (d + S.w + 2) hW hlw hw hR0 hL0 (am_upS _ _ _ _)
  have h91 : μ1 48 9 = nI sp := by rw [a2 48 (by decide), am_upI (by omega)]; exact h9
  have b6 : ps_Fd S (sp + 1) (am_up μ1 48 9 (nI (sp + 1))) := ps_Fd.fresh (fun i hi => by rw [a2 55 (by decide), am_upK (by omega)]; exact hf i hi)
  obtain ⟨μ2, hμ2⟩ : ∃ m, m = am_up μ1 48 9 (nI (sp + 1)) := ⟨_, rfl⟩
  rw [← hμ2] at b6
  have b2 : ps_off [48] μ1 μ2 := by rw [hμ2]; exact ps_off.rf.up (by decide)
  have b3 : ∀ i, i ≠ 9 → μ2 48 i = μ1 48 i := fun i hi => by rw [hμ2, am_upI hi]
  have b5 : μ2 48 9 = nI (sp + 1) := by rw [hμ2, am_upS]
  have hP2 : ps_Pm S μ2 := ⟨by rw [b3 2 (by omega)]; exact a3.1, fun h hh => by rw [b2 50 (by decide), b2 51 (by decide), b2 52 (by decide), b2 53 (by decide)]; exact a3.2.1 h hh, fun j hj => by rw [b2 54 (by decide)]; exact a3.2.2 j hj⟩
  obtain ⟨μ3, c1, c2, c3⟩ := w308 (d + 5) hw hsp S.w (Nat.le_refl _) (ps_c0 S m) μ2 hc hP2 b5 b6
  rw [Nat.sub_self, show d + 5 + S.w + 2 = d + S.w + 7 by omega] at c1
  have k4 : ∀ K, K ≠ 48 → K ≠ 55 → am_up μ3 48 0 (nI (ps_VS S S.w (ps_c0 S m))) K = μ2 K := fun K h1 h2 => by rw [am_up_ne h1, c2 K (by simpa using h2)]
  have hP4 : ps_Pm S (am_up μ3 48 0 (nI (ps_VS S S.w (ps_c0 S m)))) := ⟨by rw [am_upI (by omega), c2 48 (by decide)]; exact hP2.1, fun h hh => by rw [k4 50 (by omega) (by omega), k4 51 (by omega) (by omega), k4 52 (by omega) (by omega), k4 53 (by omega) (by omega)]; exact hP2.2.1 h hh, fun j hj => by rw [k4 54 (by omega) (by omega)]; exact hP2.2.2 j hj⟩
  obtain ⟨μ4, e1, e2, e3, e4, e5⟩ := w310 (d + 3) hw hsp (nI (ps_en (ps_c0 S m) 7)) S.w (Nat.le_refl _) (ps_c0 S m) (am_up μ3 48 0 (nI (ps_VS S S.w (ps_c0 S m)))) hc hP4 (by rw [am_upI (by omega), c2 48 (by decide)]; exact b5) (fun i hi => by rw [am_upK (by omega)]; exact c3 i hi)
  rw [Nat.sub_self, show d + 3 + S.w + 3 = d + S.w + 6 by omega] at e1
  have hleft : m * ps_en (ps_bits (2 ^ S.w - 1)) 7 = ps_en (ps_c0 S m) 7 := ps_en_mul m 7
  rw [e301, q301_0, r1, a1, am_bV_ret, h91, show am_c 1 = nI 1 from rfl, nI_add, ← hμ2, hP2.1, am_shl1 (by omega), pk_sub p0, w306 (d + S.w + 6) (by omega), am_bI_ret, pk_mul, hleft, show am_c 0 = nI 0 from rfl, c1, am_bI_ret, e310, q310_0, am_upS, show am_c 0 = nI 0 from rfl, e1, am_bV_ret]
  refine ⟨μ4, rfl, ?_, ?_, fun i s hs => ?_, ?_, fun i hi => (e5 i hi).1⟩
  · exact (((((ps_off.rf.up (by decide)).tr (a2.mono (by simp))).tr (b2.mono (by simp))).tr (c2.mono (by simp))).up (by decide)).tr (e2.mono (by simp))
  · rw [e2 48 (by decide), am_upS]
  · have := e4 i s hs
    rw [Nat.sub_self, Nat.zero_add] at this
    exact this
  · rw [e2 48 (by decide), am_upI (by omega), c2 48 (by decide)]; exact b5
end Ops29
theorem ps_Ic.le {b' : Nat} {O : ps_O} {μ : am_Mem} (h : ps_Ic bG O μ) (hb : bG ≤ b') : ps_Ic b' O μ := by
  obtain ⟨i1, i2, i3, i4, i5, i9, i10, sp, i11, i12⟩ := h
  exact ⟨i1, i2, i3, i4, i5, i9, i10, sp, Nat.le_trans i11 hb, i12⟩
/-- a call that may use one stamp -/
def ps_s1 (bG d M : Nat) (a : am_V) (O : ps_O) (r : Option Value) (O' : ps_O) : Prop := ∀ μ, ps_Ic bG O μ → ∃ μ', am_call d M a μ = am_ret r μ' ∧ ps_Ic (bG + 1) O' μ' ∧ ps_kC μ μ'
theorem ps_sC.up {d M : Nat} {a : am_V} {O O' : ps_O} {r : Option Value} (h : ps_sC bG d M a O r O') : ps_s1 bG d M a O r O' := fun μ hI => by
  obtain ⟨μ', h1, h2, h3⟩ := h μ hI
  exact ⟨μ', h1, h2.le (Nat.le_succ _), h3⟩
theorem ps_Ic.pk {b' : Nat} {O : ps_O} {μ μ' : am_Mem} (h : ps_Ic bG O μ) (ho : ps_off [11, 12, 48, 49, 50, 51, 52, 53, 54, 55] μ μ') {sp : Nat} (hsp : sp ≤ b') (h9 : μ' 48 9 = nI sp) (hf : ∀ i, i < 4096 → am_ix (μ' 55 i) / 1048576 ≤ sp) : ps_Ic b' O μ' := by
  have ee : ∀ K, K < 11 ∨ (13 ≤ K ∧ K < 48) → μ' K = μ K := fun K hK => ho K (by simp; omega)
  obtain ⟨i1, i2, i3, i4, i5, i9, i10, i11⟩ := h
  refine ⟨i1.off (fun k hk => ee _ (by omega)), i2.off (ee _ (by omega)) (ee _ (by omega)) (ee _ (by omega)) (ee _ (by omega)), ?_, ?_, ?_, fun hn => by rw [ee 0 (by omega)]; exact i9 hn, fun S' hS => ?_, sp, hsp, h9, hf⟩
  · rw [ee 0 (by omega), ee 25 (by omega)]; exact i3
  · rw [ee 26 (by omega)]; exact i4
  · rw [ee 37 (by omega), ee 38 (by omega), ee 39 (by omega), ee 40 (by omega)]; exact i5
  · obtain ⟨a1, a2, a3⟩ := i10 S' hS
    exact ⟨by rw [ee 0 (by omega)]; exact a1, a2.off (fun k hk => ee _ (by omega)), a3.off (ee _ (by omega)) (ee _ (by omega)) (ee _ (by omega)) (ee _ (by omega))⟩
def ps_most (O : ps_O) (x y : Int32) : Int32 := if (1 ≤ am_ix x ∧ am_ix x ≤ 3) ∧ O.S.w ≤ 7 ∧ (am_ix y = 0 ∨ (10 ≤ am_ix y ∧ am_ix y < 10 + O.S.w)) then (if am_ix y = 0 then nI (ps_VS O.S O.S.w (ps_c0 O.S (am_ix x))) else ps_oi ((ps_chl O.S O.S.w (ps_c0 O.S (am_ix x)))[am_ix y - 10]?)) else am_c (-1)
theorem ps_chl_len {S : ps_S} : ∀ (j : Nat) (c : Nat → Nat), (ps_chl S j c).length = j
  | 0, _ => rfl
  | j + 1, c => by rw [ps_chl, List.length_cons, ps_chl_len j]
theorem am_le9 {y : Int32} : (y < am_c 10) ↔ (am_ix y < 10 ∨ 2147483648 ≤ am_ix y) := by
  have := am_lt_ix (x := y) (a := 10) (by omega)
  rw [show am_c 10 = nI 10 from rfl, this]
theorem C_most (d : Nat) (O : ps_O) (hO : ps_Ow O) (hB : bG + 1 ≤ 2047) (x y : Int32) : ps_s1 bG (d + 16) 921 [.ref 0, .int x, .int y] O (some (.int (ps_most O x y))) O := by
  intro μ h
  have hW := hO.1
  have hw16 : O.S.w ≤ 16 := hW.1
  have r1 : μ 1 4 = nI O.S.w := h.1.1
  obtain ⟨sp, p1, p2, p3⟩ := h.2.2.2.2.2.2.2
  -- what is asked
  have ask : am_ev (am_call (d + 15)) 921 0 [.ref 0, .int x, .int y, .null] [] μ = am_ev (am_call (d + 15)) 921 29 [.ref 0, .int x, .int y, .null] [.int (nI (decide (am_ix y = 0 ∨ (10 ≤ am_ix y ∧ am_ix y < 10 + O.S.w))).toNat)] μ := by
    rw [q921_0, q921_24, q921_28, c702 (d + 14) r1 hw16, am_bI_ret]
    by_cases y0 : y = 0
    · subst y0
      rw [if_pos rfl, decide_eq_true (show am_ix 0 = 0 ∨ (10 ≤ am_ix 0 ∧ am_ix 0 < 10 + O.S.w) from Or.inl rfl)]
      rfl
    · have hy0 : ¬ am_ix y = 0 := fun e => y0 (am_ix_inj (y := 0) e)
      rw [if_neg y0]
      by_cases y10 : y < am_c 10
      · rw [if_pos y10, decide_eq_false]
        · rfl
        · have := am_le9.mp y10
          omega
      · have hy : ¬ (am_ix y < 10 ∨ 2147483648 ≤ am_ix y) := fun z => y10 (am_le9.mpr z)
        have e10 : am_ix (y - am_c 10) = am_ix y - 10 := by
          have : y - am_c 10 = nI (am_ix y - 10) := by
            rw [← am_nIx y, show am_c 10 = nI 10 from rfl, am_ixN (am_ix_lt y), pk_sub (by omega)]
          rw [this, am_ixN (by omega)]
        rw [if_neg y10, e10]
        by_cases hk : am_ix y - 10 < O.S.w
        · rw [decide_eq_true hk, if_neg (by decide), decide_eq_true, q921_24]
          · rfl
          · exact Or.inr (by omega)
        · rw [decide_eq_false hk, if_pos (by decide), decide_eq_false, q921_28]
          · rfl
          · omega
  have e := am_rngA x (a := 1) (b := 3) (by omega) (by omega) (am_ret (some (.int (am_c (-1)))) μ) (if nI 7 < nI O.S.w then am_ret (some (.int (am_c (-1)))) μ else if nI (decide (am_ix y = 0 ∨ (10 ≤ am_ix y ∧ am_ix y < 10 + O.S.w))).toNat = 0 then am_ret (some (.int (am_c (-1)))) μ else am_ev (am_call (d + 15)) 921 58 [.ref 0, .int x, .int y, .int (nI (decide (am_ix y = 0 ∨ (10 ≤ am_ix y ∧ am_ix y < 10 + O.S.w))).toNat)] [] μ)
  rw [e921, ask, q921_29, q921_56, r1, show am_c 1 = nI 1 from rfl, show am_c 3 = nI 3 from rfl, show am_c 7 = nI 7 from rfl, e, ps_most]
  by_cases hx : 1 ≤ am_ix x ∧ am_ix x ≤ 3
  · rw [if_pos hx]
    by_cases hw : O.S.w ≤ 7
    · rw [if_neg (by rw [am_ltN (by omega) (by omega)]; omega)]
      by_cases hy : am_ix y = 0 ∨ (10 ≤ am_ix y ∧ am_ix y < 10 + O.S.w)
      · obtain ⟨m, hm, rfl⟩ : ∃ a, a ≤ 3 ∧ x = nI a := ⟨am_ix x, hx.2, (am_nIx x).symm⟩
        rw [am_ixN (by omega)] at hx ⊢
        obtain ⟨μ1, a1, a2, a3, a4, a6, a7⟩ := w301 (d + (7 - O.S.w)) hW hO.2.1 hw hm (Nat.le_trans (Nat.succ_le_succ p1) hB) h.1 h.2.1 p2 p3
        rw [show d + (7 - O.S.w) + O.S.w + 8 = d + 15 by omega] at a1
        rw [decide_eq_true hy, if_neg (by decide), if_pos ⟨hx, hw, hy⟩, q921_58, a1, am_bV_ret, q921_84, q921_96, q921_96, a3]
        refine ⟨μ1, ?_, h.pk a2 (Nat.succ_le_succ p1) a6 a7, ps_kC.off a2 rfl⟩
        rcases hy with hy | hy
        · rw [if_pos hy, if_pos (show y = 0 from am_ix_inj (y := 0) hy)]
        · rw [if_neg (show ¬ y = 0 from fun z => by rw [z] at hy; exact absurd hy.1 (by decide)), if_neg (show ¬ am_ix y = 0 by omega)]
          have e10 : am_ix (y - am_c 10) = am_ix y - 10 := by
            have : y - am_c 10 = nI (am_ix y - 10) := by
              rw [← am_nIx y, show am_c 10 = nI 10 from rfl, am_ixN (am_ix_lt y), pk_sub (by omega)]
            rw [this, am_ixN (by omega)]
          have hlt : am_ix y - 10 < (ps_chl O.S O.S.w (ps_c0 O.S m)).length := by rw [ps_chl_len]; omega
          rw [e10, am_gbI (by omega), List.getElem?_eq_getElem hlt, a4 _ _ (List.getElem?_eq_getElem hlt)]
          rfl
      · rw [decide_eq_false hy, if_pos (by decide), if_neg (fun z => hy z.2.2)]
        exact ⟨μ, rfl, h.le (Nat.le_succ _), ps_kC.rf⟩
    · rw [if_pos (by rw [am_ltN (by omega) (by omega)]; omega), if_neg (fun z => hw z.2.1)]
      exact ⟨μ, rfl, h.le (Nat.le_succ _), ps_kC.rf⟩
  · rw [if_neg hx, if_neg (fun z => hx z.1)]
    exact ⟨μ, rfl, h.le (Nat.le_succ _), ps_kC.rf⟩
