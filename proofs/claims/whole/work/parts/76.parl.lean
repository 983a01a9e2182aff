/-! the component's reader: a line, the law -/
theorem ps_nv_lt {tp : Nat → Nat} : ∀ (k i a : Nat), (∀ j, i ≤ j → j < i + k → ps_isD (tp j) = true) → ps_nv tp k i a + 1 ≤ (a + 1) * 10 ^ k
  | 0, i, a, _ => by rw [ps_nv]; simp
  | k + 1, i, a, h => by
    rw [ps_nv]
    have h1 := ps_nv_lt k (i + 1) (a * 10 + (tp i - 48)) (fun j hj hk => h j (by omega) (by omega))
    have h2 := h i (Nat.le_refl _) (by omega)
    unfold ps_isD at h2
    have h3 : tp i ≤ 57 := by
      rw [Bool.and_eq_true] at h2
      exact of_decide_eq_true h2.2
    have h4 : a * 10 + (tp i - 48) + 1 ≤ (a + 1) * 10 := by omega
    have h5 := Nat.mul_le_mul_right (10 ^ k) h4
    rw [Nat.pow_succ, Nat.mul_comm (10 ^ k) 10, ← Nat.mul_assoc]
    omega
theorem ps_kwf_le (seg : List Nat) : ∀ (m x : Nat), x + m ≤ 12 → ps_kwf seg m x ≤ 14 ∧ ps_kwf seg m x ≠ 0 ∧ ps_kwf seg m x ≠ 2
  | 0, x, _ => by rw [ps_kwf]; omega
  | m + 1, x, h => by
    rw [ps_kwf]
    split
    · omega
    · exact ps_kwf_le seg m (x + 1) (by omega)
theorem ps_sgk_le (n : Nat) : ps_sgk n ≤ 24 ∧ ps_sgk n ≠ 0 ∧ ps_sgk n ≠ 2 := by
  unfold ps_sgk
  repeat' split
  all_goals omega
theorem ps_tks_ge {tp : Nat → Nat} {tl : Nat} : ∀ (k i : Nat), ps_ge (ps_tks tp tl k i)
  | 0, i => ⟨Nat.zero_le _, fun h => absurd (show (0 : Nat) = 2 from h) (by decide), Or.inl ⟨rfl, rfl⟩⟩
  | k + 1, i => by
    rw [ps_tks]
    by_cases hi : i < tl
    · rw [if_pos hi]
      by_cases hb : ps_isB (tp i) = true
      · rw [if_pos hb]
        exact ps_tks_ge k _
      · rw [if_neg hb]
        have key : ps_kd tp i (ps_eot tp tl i) ≤ 24 ∧ ps_kd tp i (ps_eot tp tl i) ≠ 0 ∧ (ps_kd tp i (ps_eot tp tl i) = 2 → ps_nv tp (ps_eot tp tl i - i) i 0 ≤ 9999) := by
          unfold ps_kd
          by_cases hd : ps_isD (tp i) = true
          · rw [if_pos hd]
            have hL : ¬ ps_isL (tp i) = true := by
              unfold ps_isD at hd
              unfold ps_isL
              rw [Bool.and_eq_true] at hd
              have h1 := of_decide_eq_true hd.1
              have h2 := of_decide_eq_true hd.2
              simp
              omega
            by_cases h4 : ps_eot tp tl i - i ≤ 4
            · rw [if_pos h4]
              refine ⟨by decide, by decide, fun _ => ?_⟩
              have hall : ∀ j, i ≤ j → j < i + (ps_eot tp tl i - i) → ps_isD (tp j) = true := fun j h1 h2 => by
                by_cases hj : j = i
                · rw [hj]; exact hd
                · refine ps_end'_all (tl - (i + 1)) (i + 1) j (by omega) ?_
                  have : ps_eot tp tl i = ps_end' ps_isD tp (tl - (i + 1)) (i + 1) := by unfold ps_eot; rw [if_neg hL, if_pos hd]
                  omega
              have h5 := ps_nv_lt _ i 0 hall
              have h6 : 10 ^ (ps_eot tp tl i - i) ≤ 10 ^ 4 := Nat.pow_le_pow_right (by decide) h4
              have h7 : (0 + 1) * 10 ^ (ps_eot tp tl i - i) = 10 ^ (ps_eot tp tl i - i) := by rw [Nat.zero_add, Nat.one_mul]
              have h8 : (10 : Nat) ^ 4 = 10000 := by decide
              omega
            · rw [if_neg h4]
              exact ⟨by decide, by decide, fun h => absurd h (by decide)⟩
          · rw [if_neg hd]
            split
            · have := ps_kwf_le (ps_seg tp i (ps_eot tp tl i - i)) 12 0 (by decide)
              exact ⟨Nat.le_trans this.1 (by decide), this.2.1, fun e => absurd e this.2.2⟩
            · have := ps_sgk_le (tp i)
              exact ⟨this.1, this.2.1, fun e => absurd e this.2.2⟩
        exact ⟨key.1, key.2.2, Or.inr ⟨key.2.1, ps_tks_ge k _⟩⟩
    · rw [if_neg hi]
      exact ⟨Nat.zero_le _, fun h => absurd (show (0 : Nat) = 2 from h) (by decide), Or.inl ⟨rfl, rfl⟩⟩
abbrev ps_LW : Type := List (Bool × List (Nat × Nat))
theorem ps_posC_app {L : ps_LW} {x : Bool × List (Nat × Nat)} {l : Nat} (h : l ≤ L.length) : ps_posC (L ++ [x]) l = ps_posC L l := by
  unfold ps_posC
  rw [List.take_append_of_le_length h]
theorem ps_posC_last (L : ps_LW) (x : Bool × List (Nat × Nat)) : ps_posC (L ++ [x]) (L.length + 1) = ps_posC L L.length + (ps_encs x.2).length := by
  unfold ps_posC
  rw [List.take_of_length_le (by rw [List.length_append]; exact Nat.le_refl _), List.take_of_length_le (Nat.le_refl _), List.map_append, List.sum_append]
  rfl
theorem ps_posC_le {L : ps_LW} {l : Nat} {q : Bool × List (Nat × Nat)} (h : L[l]? = some q) : ps_posC L l + (ps_encs q.2).length ≤ ps_posC L L.length := by
  have h1 := ps_pos_succ (fun q : Bool × List (Nat × Nat) => (ps_encs q.2).length) L l q h
  have h2 := ps_posC_mono (f := fun q : Bool × List (Nat × Nat) => (ps_encs q.2).length) L (l + 1)
  have h3 : ps_posC L L.length = (L.map (fun q => (ps_encs q.2).length)).sum := by unfold ps_posC; rw [List.take_of_length_le (Nat.le_refl _)]
  have h4 : ps_posC L l = ((L.take l).map (fun q => (ps_encs q.2).length)).sum := rfl
  omega
theorem ps_gapL {α : Type} {L : List α} {x s : α} {i : Nat} (h : (L ++ [x])[i]? = some s) : (i < L.length ∧ L[i]? = some s) ∨ (i = L.length ∧ s = x) := by
  rw [List.getElem?_append] at h
  by_cases hi : i < L.length
  · rw [if_pos hi] at h
    exact Or.inl ⟨hi, h⟩
  · rw [if_neg hi] at h
    have : i - L.length = 0 := by
      have := (List.getElem?_eq_some_iff.mp h).1
      rw [List.length_singleton] at this
      omega
    rw [this, List.getElem?_cons_zero] at h
    exact Or.inr ⟨by omega, (Option.some.inj h).symm⟩
def ps_Gg (T0 : List ps_K) (μ0 : am_Mem) (T : List ps_K) (L : ps_LW) (μ : am_Mem) : Prop := (∀ K, K < 26 ∨ (26 < K ∧ K < 31) ∨ 34 < K → μ K = μ0 K) ∧ (∀ i, i < 2 ∨ 5 ≤ i → μ 26 i = μ0 26 i) ∧ ps_Lc 31 L μ ∧ μ 26 4 = nI (ps_posC L L.length) ∧ ps_ge T ∧ ∃ r, r + T.length = T0.length ∧ T = T0.drop r ∧ μ 26 2 = nI r ∧ μ 26 3 = nI (ps_hk T).1
def ps_Gf (μ0 : am_Mem) (e : Nat × Nat) (μ : am_Mem) : Prop := (∀ K, K < 26 ∨ (26 < K ∧ K < 31) ∨ 34 < K → μ K = μ0 K) ∧ (∀ i, i < 2 ∨ 7 ≤ i → μ 26 i = μ0 26 i) ∧ μ 26 5 = nI e.1 ∧ μ 26 6 = nI e.2
theorem ps_Pg.up {T0 : List ps_K} {μ0 μ : am_Mem} {s0 : Nat} {T : List ps_K} {cs : List Nat} (h : ps_Pg T0 μ0 s0 T cs μ) {K i : Nat} {x : Int32} (h1 : K ≠ 26) (h2 : K ≠ 34) : ps_Pg T0 (am_up μ K i x) s0 T cs (am_up μ K i x) := by
  obtain ⟨-, -, -, a4, a5, a6, r, b1, b2, b3, b4⟩ := h
  exact ⟨fun _ _ _ => rfl, fun _ _ => rfl, fun _ _ => rfl, fun j c hj => by rw [am_upK (Ne.symm h2)]; exact a4 j c hj, by rw [am_upK (Ne.symm h1)]; exact a5, a6, r, b1, b2, by rw [am_upK (Ne.symm h1)]; exact b3, by rw [am_upK (Ne.symm h1)]; exact b4⟩
section ParL
variable {T0 : List ps_K} {μ0 : am_Mem}
theorem ps_Tk.off {μ : am_Mem} (hk : ps_Tk T0 μ0) (h : ∀ K, 26 < K ∧ K < 31 → μ K = μ0 K) : ps_Tk T0 μ := by
  obtain ⟨h1, h2⟩ := hk
  refine ⟨by rw [h 27 (by omega)]; exact h1, fun r q hq => ?_⟩
  rw [h 28 (by omega), h 29 (by omega), h 30 (by omega)]
  exact h2 r q hq
theorem w206 (d : Nat) (hk : ps_Tk T0 μ0) (h0l : T0.length ≤ 401) {T : List ps_K} {L : ps_LW} {μ : am_Mem} (h : ps_Gg T0 μ0 T L μ) (hL : L.length ≤ 16) (hb : ps_posC L L.length + T.length ≤ 401) :
    match (if (ps_hk T).1 = 3 ∨ (ps_hk T).1 = 4 then (if L.length < 16 then ps_pL T else .inl (3, (ps_hk T).2.1)) else .inl (1, (ps_hk T).2.1) : ps_R) with
    | .inl e => ∃ μ', am_call (d + 33) 206 [.ref 26] μ = am_ret (some (.int (nI 0))) μ' ∧ ps_Gf μ0 e μ'
    | .inr q => ∃ μ', am_call (d + 33) 206 [.ref 26] μ = am_ret (some (.int (nI 1))) μ' ∧ ps_Gg T0 μ0 q.1 (L ++ [(decide ((ps_hk T).1 = 3), q.2)]) μ' := by
  obtain ⟨a1, a2, a3, a4, a5, r, b1, b2, b3, b4⟩ := id h
  have h24 := a5.hd.1
  have hP0 : ps_Pg T0 μ (ps_posC L L.length) T [] μ := ⟨fun _ _ _ => rfl, fun _ _ => rfl, fun _ _ => rfl, fun j c hj => by simp at hj, a4, a5, r, b1, b2, b3, b4⟩
  have hkμ : ps_Tk T0 μ := hk.off (fun K hK => a1 K (by omega))
  have fail : ∀ (k : Nat), ∃ μ', am_bI (am_call (d + 32) 203 [.ref 26, .int (nI k)] μ) (fun r1 m1 => am_gb (Nat.blt (am_ix r1) 2) (am_ret (some (.int r1)) m1)) = am_ret (some (.int (nI 0))) μ' ∧ ps_Gf μ0 (k, (ps_hk T).2.1) μ' := fun k => by
    obtain ⟨μ1, s1, s2, s3, s4, s5⟩ := w203 (d + 31) hkμ h0l hP0 k
    rw [s1, am_bI_ret, ps_gb01 (by omega)]
    exact ⟨μ1, rfl, fun K hK => by rw [s2 K (by omega) (by omega)]; exact a1 K hK, fun i hi => by rw [s3 i hi]; exact a2 i (by omega), s4, s5⟩
  rw [e206, q206_0, b4]
  by_cases hc : (ps_hk T).1 = 3 ∨ (ps_hk T).1 = 4
  · have first : ∀ (A B : am_R), (if nI (ps_hk T).1 = am_c 3 then A else if nI (ps_hk T).1 = am_c 4 then A else B) = A := by
      intro A B
      by_cases h1 : (ps_hk T).1 = 3
      · rw [if_pos (by rw [h1]; rfl)]
      · rw [if_neg (by rw [am_cN, am_eqN (by omega) (by omega)]; exact h1), if_pos (by rw [am_cN, am_eqN (by omega) (by omega)]; omega)]
    rw [first, if_pos hc, q206_22, a3.1]
    by_cases h16 : L.length < 16
    · rw [if_pos h16, if_pos (by rw [am_cN, am_ltN (by omega) (by omega)]; exact h16)]
      have f40 : am_ev (am_call (d + 32)) 206 40 [.ref 26] [] μ = am_ev (am_call (d + 32)) 206 67 [.ref 26] [.int (nI (decide ((ps_hk T).1 = 3)).toNat), .int (nI L.length), .ref 32] μ := by
        rw [q206_40, b4, a3.1]
        by_cases h3 : (ps_hk T).1 = 3
        · rw [if_pos (by rw [h3]; rfl), decide_eq_true h3]; rfl
        · rw [if_neg (by rw [am_cN, am_eqN (by omega) (by omega)]; exact h3), q206_66, decide_eq_false h3]; rfl
      rw [f40, q206_67, am_ixN (by omega), am_gbI h16, am_upK (by omega), a3.1, am_ixN (by omega), am_gbI (by omega), am_upK (by omega), a4]
      generalize hbb : decide ((ps_hk T).1 = 3) = bb
      generalize hμa : am_up (am_up μ 32 L.length (nI bb.toNat)) 33 L.length (nI (ps_posC L L.length)) = μa
      have hPa : ps_Pg T0 μa (ps_posC L L.length) T [] μa := by rw [← hμa]; exact (hP0.up (by omega) (by omega)).up (by omega) (by omega)
      have ca : ∀ K, K ≠ 32 → K ≠ 33 → μa K = μ K := fun K h1 h2 => by rw [← hμa, am_up_ne h2, am_up_ne h1]
      have hka : ps_Tk T0 μa := hk.off (fun K hK => by rw [ca K (by omega) (by omega)]; exact a1 K (by omega))
      obtain ⟨t1, t2⟩ := a5.tail (by omega)
      have t24 := t1.hd.1
      obtain ⟨μ1, s1, s2⟩ := w202 (d + 31) hka h0l hPa (by omega)
      rw [s1, am_bV_ret]
      -- what follows the condition
      have tl : ∀ (R : List ps_K) (c : ps_C) (μ3 : am_Mem), (ps_encs c).length + R.length + 1 ≤ T.length → ps_Pg T0 μa (ps_posC L L.length) R ([] ++ ps_encs c) μ3 →
          match (if (ps_hk R).1 = 15 then .inr (R.tail, c) else .inl (1, (ps_hk R).2.1) : ps_R) with
          | .inl e => ∃ μ', am_ev (am_call (d + 32)) 206 115 [.ref 26] [] μ3 = am_ret (some (.int (nI 0))) μ' ∧ ps_Gf μ0 e μ'
          | .inr q => ∃ μ', am_ev (am_call (d + 32)) 206 115 [.ref 26] [] μ3 = am_ret (some (.int (nI 1))) μ' ∧ ps_Gg T0 μ0 q.1 (L ++ [(bb, q.2)]) μ' := by
        intro R c μ3 hlen hP3
        obtain ⟨p1, p2, p3, p4, p5, p6, -⟩ := id hP3
        have c31 : μ3 31 0 = nI L.length := by rw [p1 31 (by omega) (by omega), ca 31 (by omega) (by omega)]; exact a3.1
        have hP4 := (hP3.up (K := 31) (i := 0) (x := nI (L.length + 1)) (by omega) (by omega)).up (K := 33) (i := L.length + 1) (x := nI (ps_posC L L.length + (ps_encs c).length)) (by omega) (by omega)
        have p5' : μ3 26 4 = nI (ps_posC L L.length + (ps_encs c).length) := p5
        rw [q206_115, c31, show nI L.length + am_c 1 = nI (L.length + 1) from nI_add _ 1, am_upS, am_ixN (by omega), am_gbI (by omega), am_upK (by omega), p5']
        generalize hμb : am_up (am_up μ3 31 0 (nI (L.length + 1))) 33 (L.length + 1) (nI (ps_posC L L.length + (ps_encs c).length)) = μb at hP4 ⊢
        have cb : ∀ K, K < 26 ∨ (26 < K ∧ K < 31) ∨ 34 < K → μb K = μ0 K := fun K hK => by
          rw [← hμb, am_up_ne (by omega), am_up_ne (by omega), p1 K (by omega) (by omega), ca K (by omega) (by omega)]
          exact a1 K hK
        have cb26 : ∀ i, i < 2 ∨ 5 ≤ i → μb 26 i = μ0 26 i := fun i hi => by
          rw [← hμb, am_upK (by omega), am_upK (by omega), p2 i hi, ca 26 (by omega) (by omega)]
          exact a2 i hi
        have hkb : ps_Tk T0 μb := hk.off (fun K hK => cb K (by omega))
        have h4 := (w204 (d + 30) hkb h0l hP4 (k := 15) (by decide) (by decide)).gb
        rw [show am_c 15 = nI 15 from rfl]
        by_cases h15 : (ps_hk R).1 = 15
        · rw [if_pos h15] at h4 ⊢
          obtain ⟨μ4, e1, e2⟩ := h4
          refine ⟨μ4, e1, ?_⟩
          have e2 : ps_Pg T0 μb (ps_posC L L.length) R.tail ([] ++ ps_encs c) μ4 := by rw [show ps_encs [] = [] from rfl, List.append_nil] at e2; exact e2
          obtain ⟨f1, f2, f3, f4, f5, f6, f7⟩ := e2
          have m31 : μ4 31 0 = nI (L.length + 1) := by rw [f1 31 (by omega) (by omega), ← hμb, am_upK (by omega), am_upS]
          have m32 : ∀ i, μ4 32 i = if i = L.length then nI bb.toNat else μ 32 i := fun i => by
            rw [f1 32 (by omega) (by omega), ← hμb, am_upK (by omega), am_upK (by omega), p1 32 (by omega) (by omega), ← hμa, am_upK (by omega)]
            by_cases hi : i = L.length
            · rw [if_pos hi, hi, am_upS]
            · rw [if_neg hi, am_upI hi]
          have m33 : ∀ i, μ4 33 i = if i = L.length + 1 then nI (ps_posC L L.length + (ps_encs c).length) else if i = L.length then nI (ps_posC L L.length) else μ 33 i := fun i => by
            rw [f1 33 (by omega) (by omega), ← hμb]
            by_cases hi : i = L.length + 1
            · rw [if_pos hi, hi, am_upS]
            · rw [if_neg hi, am_upI hi, am_upK (by omega), p1 33 (by omega) (by omega), ← hμa]
              by_cases hi' : i = L.length
              · rw [if_pos hi', hi', am_upS]
              · rw [if_neg hi', am_upI hi', am_upK (by omega)]
          have m34 : ∀ i, i < ps_posC L L.length → μ4 34 i = μ 34 i := fun i hi => by
            rw [f3 i hi, ← hμb, am_upK (by omega), am_upK (by omega), p3 i hi, ca 34 (by omega) (by omega)]
          refine ⟨fun K hK => by rw [f1 K (by omega) (by omega)]; exact cb K hK, fun i hi => by rw [f2 i hi]; exact cb26 i hi, ⟨by rw [List.length_append]; exact m31, fun l q hq => ?_⟩, by rw [List.length_append, List.length_singleton, ps_posC_last]; exact f5, f6, f7⟩
          rcases ps_gapL hq with ⟨g1, g2⟩ | ⟨g1, g2⟩
          · obtain ⟨l1, l2, l3, l4⟩ := a3.2 l q g2
            have hle := ps_posC_le g2
            rw [ps_posC_app (by omega), ps_posC_app (by omega)]
            refine ⟨by show μ4 32 l = _; rw [m32, if_neg (by omega)]; exact l1, by show μ4 33 l = _; rw [m33, if_neg (by omega), if_neg (by omega)]; exact l2, ?_, fun j cc hj => ?_⟩
            · show μ4 33 (l + 1) = _
              rw [m33, if_neg (by omega)]
              by_cases hl : l + 1 = L.length
              · rw [if_pos hl, ← hl]
              · rw [if_neg hl]; exact l3
            · show μ4 34 _ = _
              have hj' := (List.getElem?_eq_some_iff.mp hj).1
              rw [m34 _ (by omega)]
              exact l4 j cc hj
          · subst g1
            subst g2
            rw [ps_posC_app (Nat.le_refl _), ps_posC_last]
            exact ⟨by show μ4 32 _ = _; rw [m32, if_pos rfl], by show μ4 33 _ = _; rw [m33, if_neg (by omega), if_pos rfl], by show μ4 33 _ = _; rw [m33, if_pos rfl], f4⟩
        · rw [if_neg h15] at h4 ⊢
          obtain ⟨μ4, e1, e2, e3, e4, e5⟩ := h4
          exact ⟨μ4, e1, fun K hK => by rw [e2 K (by omega) (by omega)]; exact cb K hK, fun i hi => by rw [e3 i hi]; exact cb26 i (by omega), e4, e5⟩
      rw [ps_pL, ps_pB]
      have k1 : μ1 26 3 = nI (ps_hk T.tail).1 := s2.k
      rw [k1]
      by_cases h5 : (ps_hk T.tail).1 = 5
      · rw [if_pos h5, if_pos (show nI (ps_hk T.tail).1 = am_c 5 by rw [h5]; rfl)]
        obtain ⟨u1, u2⟩ := t1.tail (by omega)
        obtain ⟨μ2, s3, s4⟩ := w202 (d + 31) hka h0l s2 (by omega)
        rw [s3, am_bV_ret]
        have b1 := w207_7 (T0 := T0) (μ0 := μa) (s0 := ps_posC L L.length) (d + 29) hka h0l (m := 4 + 2 * 8) (fun T hT => ps_pX_ok 8 hT) (w208 hka h0l 8 (d + 30) (by omega) (by omega))
        have b2 := w207_6 (d + 30) hka h0l (m := 4 + 2 * 8 + 1) (fun T hT => ps_lp_ok (fun T hT => ps_pX_ok 8 hT) rfl (fun j => (ps_opA_ok j).1) (fun j => (ps_opA_ok j).2) hT) b1
        have b3 := b2 [] T.tail.tail μ2 s4 (by rw [List.length_nil]; omega)
        have hA : ps_lp (ps_lp (ps_pX 8) ps_opA) ps_opO T.tail.tail = ps_pA 8 T.tail.tail := rfl
        rw [hA] at b3
        have ok := ps_pA_ok 8 u1
        cases hr : ps_pA 8 T.tail.tail with
        | inl e =>
          rw [hr] at b3
          obtain ⟨μ3, e1, e2, e3, e4, e5⟩ := b3
          rw [show (am_c 6 : Int32) = nI 6 from rfl, show (am_c 0 : Int32) = nI (8 - 8) from rfl, e1, am_bI_ret, if_pos (by decide)]
          exact ⟨μ3, rfl, fun K hK => by rw [e2 K (by omega) (by omega), ca K (by omega) (by omega)]; exact a1 K hK, fun i hi => by rw [e3 i hi, ca 26 (by omega) (by omega)]; exact a2 i (by omega), e4, e5⟩
        | inr q =>
          obtain ⟨v1, v2, v3⟩ := ok.inr (R := q.1) (c := q.2) hr
          rw [hr] at b3
          obtain ⟨μ3, e1, e2⟩ := b3
          rw [show (am_c 6 : Int32) = nI 6 from rfl, show (am_c 0 : Int32) = nI (8 - 8) from rfl, e1, am_bI_ret, if_neg (by decide)]
          exact tl q.1 q.2 μ3 (by omega) e2
      · rw [if_neg h5, if_neg (show ¬ nI (ps_hk T.tail).1 = am_c 5 by rw [am_cN, am_eqN (by omega) (by omega)]; exact h5)]
        exact tl T.tail [] μ1 (by rw [show (ps_encs []).length = 0 from rfl]; omega) s2
    · rw [if_neg h16, if_neg (by rw [am_cN, am_ltN (by omega) (by omega)]; exact h16)]
      exact fail 3
  · rw [if_neg hc, if_neg (by rw [am_cN, am_eqN (by omega) (by omega)]; omega), if_neg (by rw [am_cN, am_eqN (by omega) (by omega)]; omega)]
    exact fail 1
end ParL
