/-! the model's isFixed -/
theorem ps_Lm.off {W : Nat} {law : List (Bool × List (Nat × Nat))} {μ μ' : am_Mem} (h : ps_Lm W law μ) (e : μ' W = μ W) : ps_Lm W law μ' := ⟨by rw [e]; exact h.1, fun l q hq => by
  obtain ⟨a1, a2, a3, a4⟩ := h.2 l q hq
  exact ⟨by rw [e]; exact a1, by rw [e]; exact a2, by rw [e]; exact a3, fun j q' hj => by rw [e]; exact a4 j q' hj⟩⟩
theorem ps_Lc.off {B : Nat} {law : List (Bool × List (Nat × Nat))} {μ μ' : am_Mem} (h : ps_Lc B law μ) (e0 : μ' B = μ B) (e1 : μ' (B + 1) = μ (B + 1)) (e2 : μ' (B + 2) = μ (B + 2)) (e3 : μ' (B + 3) = μ (B + 3)) : ps_Lc B law μ' := ⟨by rw [e0]; exact h.1, fun l q hq => by
  obtain ⟨a1, a2, a3, a4⟩ := h.2 l q hq
  exact ⟨by rw [e1]; exact a1, by rw [e2]; exact a2, by rw [e2]; exact a3, a4.off e3⟩⟩
theorem m1043 (d : Nat) {μ : am_Mem} {w set head : Nat} {mk : Nat → Nat} {law : List (Bool × List (Nat × Nat))} (hw : μ 57 0 = nI w) (hw16 : w ≤ 16) (hm : ∀ k, k < w → μ 57 (10 + k) = nI (mk k)) (hm2 : ∀ k, k < w → mk k ≤ 1023) (hs : set < 2 ^ w) (hh : head < w) (hL : ps_Lm 57 law μ) (hlw : ps_Lw law) :
    ∃ μ', am_call (d + 3) 1043 [.ref 56, .int (nI head), .int (nI set)] μ = am_ret (some (.int (nI (ps_says (ps_envv w mk head set) law).toNat))) μ' ∧ ps_off [64, 65] μ μ' := by
  have hs16 : set < 65536 := Nat.lt_of_lt_of_le hs (Nat.pow_le_pow_right (by omega) hw16 : 2 ^ w ≤ 2 ^ 16)
  have hall : ps_ors mk set w < 1024 := ps_ors_lt (b := 10) (fun k hk => by have := hm2 k hk; omega)
  have hmh := hm2 head hh
  have b1 : (mk head &&& ps_ors mk set w) < 65536 := Nat.lt_of_le_of_lt Nat.and_le_left (by omega)
  have b2 : ps_dif (mk head) (ps_ors mk set w) < 65536 := ps_dif_lt (n := 16) (by omega)
  have b3 : ps_dif (ps_ors mk set w) (mk head) < 65536 := ps_dif_lt (n := 16) (by omega)
  rw [e1043, q1043_0, m1042 (d + 1) hw hw16 hm (by omega), am_bI_ret, am_cN, nI_add, am_ixN (by omega), am_gbI (by omega), hm head hh, am_and, m1007 (d + 1) (by omega), am_bI_ret, am_gbI (by omega), am_upK (by omega), hm head hh, am_andn, m1007 (d + 1) (by omega), am_bI_ret, am_gbI (by omega), am_upK (by omega), am_upK (by omega), hm head hh, am_andn, m1007 (d + 1) (by omega), am_bI_ret, m1007 (d + 1) (by omega), am_bI_ret]
  generalize hμ : am_up (am_up (am_up (am_up (am_up μ 65 1 _) 65 2 _) 65 3 _) 65 4 _) 65 5 _ = μ1
  have hoff : ps_off [64, 65] μ μ1 := by
    rw [← hμ]
    exact ps_off.up (ps_off.up (ps_off.up (ps_off.up (ps_off.up ps_off.rf (by simp)) (by simp)) (by simp)) (by simp)) (by simp)
  have e57 : μ1 57 = μ 57 := hoff 57 (by simp)
  obtain ⟨μ2, g1, g2, g3, g4⟩ := m1043_90 (d + 2) (all := ps_ors mk set w) hw16 hm2 hs16 (show head < 16 by omega) w 0 μ1 (by omega) (by rw [e57]; exact hw) (fun k hk => by rw [e57]; exact hm k hk) (by rw [← hμ, am_upS]; rfl)
  have g1 : am_ev (am_call (d + 2)) 1043 90 [.ref 56, .int (nI head), .int (nI set), .int (nI (ps_ors mk set w)), .int (nI 0)] [] μ1 = _ := g1
  have e57b : μ2 57 = μ 57 := (g2 57 (by simp)).trans e57
  have henv : ∀ k, 1 ≤ k → k ≤ 6 → am_up μ2 65 6 (nI head) 65 k = ps_envv w mk head set k := by
    intro k k1 k2
    rcases (show k = 1 ∨ k = 2 ∨ k = 3 ∨ k = 4 ∨ k = 5 ∨ k = 6 by omega) with rfl | rfl | rfl | rfl | rfl | rfl
    · rw [am_upI (by omega), g3 1 (by omega), ← hμ]; simp [am_up, ps_envv]
    · rw [am_upI (by omega), g3 2 (by omega), ← hμ]; simp [am_up, ps_envv]
    · rw [am_upI (by omega), g3 3 (by omega), ← hμ]; simp [am_up, ps_envv]
    · rw [am_upI (by omega), g3 4 (by omega), ← hμ]; simp [am_up, ps_envv]
    · rw [am_upI (by omega), g4]; rfl
    · rw [am_upS]; rfl
  obtain ⟨μ3, k1, k2⟩ := m1043_164 d (ps_envv w mk head set) hlw (x1 := nI head) (x2 := nI set) (x3 := nI (ps_ors mk set w)) law.length 0 (am_up μ2 65 6 (nI head)) (by omega) (hL.off (by rw [am_up_ne (by omega)]; exact e57b)) henv
  refine ⟨μ3, ?_, (hoff.tr ((g2.mono (fun K hK => by simp at hK; subst hK; simp)).up (by simp))).tr (k2.mono (fun K hK => by simp at hK; subst hK; simp))⟩
  rw [am_cN, g1, q1043_153]
  exact k1
theorem c717 (d : Nat) {μ : am_Mem} {w e ct : Nat} {mk us : Nat → Nat} {head : Nat} {law : List (Bool × List (Nat × Nat))} (hw : μ 1 4 = nI w) (hw16 : w ≤ 16) (hm : ∀ k, k < w → μ 2 k = nI (mk k)) (hm2 : ∀ k, k < w → mk k ≤ 1023) (hL : ps_Lc 7 law μ) (hlw : ps_Lw law) (he : e < 12) (hhd : μ 3 e = nI head) (hh : head < w) (hct : μ 4 e = nI ct) (h3 : ct ≤ 3) (hus : ∀ i, i < ct → μ 5 (e * 3 + i) = nI (us i)) (hu : ∀ i, i < ct → us i < w) :
    ∃ μ', am_call (d + 4) 717 [.ref 1, .int (nI e)] μ = am_ret (some (.int (nI (ps_says (ps_envv w mk head (ps_mask us ct)) law).toNat))) μ' ∧ ps_off [11, 12] μ μ' := by
  obtain ⟨μ', g1, g2⟩ := c718 d hw hw16 hm hm2 (set := ps_mask us ct) (ps_mask_lt hu) hh hL hlw
  refine ⟨μ', ?_, g2⟩
  rw [e717, q717_0, am_ixN (by omega), am_gbI he, c711 (d + 2) he hct h3 hus (fun i hi => by have := hu i hi; omega), am_bI_ret, hhd, g1, am_bI_ret, am_gbb]
theorem m1045 (d : Nat) {μ : am_Mem} {w e ct : Nat} {mk us : Nat → Nat} {head : Nat} {law : List (Bool × List (Nat × Nat))} (hw : μ 57 0 = nI w) (hw16 : w ≤ 16) (hm : ∀ k, k < w → μ 57 (10 + k) = nI (mk k)) (hm2 : ∀ k, k < w → mk k ≤ 1023) (hL : ps_Lm 57 law μ) (hlw : ps_Lw law) (he : e < 12) (hhd : μ 57 (45 + 5 * e) = nI head) (hh : head < w) (hct : μ 57 (46 + 5 * e) = nI ct) (h3 : ct ≤ 3) (hus : ∀ i, i < ct → μ 57 (47 + 5 * e + i) = nI (us i)) (hu : ∀ i, i < ct → us i < w) :
    ∃ μ', am_call (d + 4) 1045 [.ref 56, .int (nI e)] μ = am_ret (some (.int (nI (ps_says (ps_envv w mk head (ps_mask us ct)) law).toNat))) μ' ∧ ps_off [64, 65] μ μ' := by
  obtain ⟨μ', g1, g2⟩ := m1043 d hw hw16 hm hm2 (set := ps_mask us ct) (ps_mask_lt hu) hh hL hlw
  refine ⟨μ', ?_, g2⟩
  rw [e1045, q1045_0, am_cN, m1005 (d + 2) (by omega), am_bI_ret, show μ 57 (45 + 5 * e + 0) = nI head from hhd, m1044 (d + 1) he hct h3 hus (fun i hi => by have := hu i hi; omega), am_bI_ret, g1, am_bI_ret, am_gbb]
