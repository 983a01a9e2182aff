/-! text: the model -/
theorem ps_Rm.lo {W : Nat} {S : ps_S} {μ μ' : am_Mem} (h : ps_Rm W S μ) (hW : ps_Wf S) (e : ∀ i, i < 435 → μ' W i = μ W i) : ps_Rm W S μ' := by
  obtain ⟨h1, h2, h3, h4, h5, h6, h7, h8, h9, h10, h11, h12, h13⟩ := h
  obtain ⟨w1, -, -, -, -, -, w7, w8, w9, -⟩ := hW
  exact ⟨by rw [e _ (by omega)]; exact h1, fun k hk => by rw [e _ (by omega)]; exact h2 k hk, fun k hk => by rw [e _ (by omega)]; exact h3 k hk, by rw [e _ (by omega)]; exact h4, by rw [e _ (by omega)]; exact h5, by rw [e _ (by omega)]; exact h6, by rw [e _ (by omega)]; exact h7, by rw [e _ (by omega)]; exact h8, fun k hk => by rw [e _ (by omega)]; exact h9 k hk, fun k hk => by rw [e _ (by omega)]; exact h10 k hk, fun k i hk hi => by have := (w8 k hk).2.2.1; rw [e _ (by omega)]; exact h11 k i hk hi, by rw [e _ (by omega)]; exact h12, fun i f hi hf => by rw [e _ (by omega)]; exact h13 i f hi hf⟩
section MTxt
variable {tp : Nat → Nat} {tl : Nat}
/-- the lines of the text, one after another -/
theorem v1038_26 (d : Nat) {μ0 : am_Mem} (hM : ps_Mt tp tl μ0) (x2 : Value) : ∀ (n : Nat) (T : List ps_K) (L : ps_LW) (m : am_Mem), L.length + n = 16 → ps_posM L L.length + T.length ≤ 401 → ps_Hg tp tl μ0 T L m →
    match ps_pT n T L with
    | .inl e => ∃ m', am_ev (am_call (d + 39)) 1038 26 [.ref 56, .int (nI 1), x2] [] m = am_ev (am_call (d + 39)) 1038 63 [.ref 56, .int (nI 0), x2] [] m' ∧ ps_Hf μ0 e m'
    | .inr L' => ∃ m' T', am_ev (am_call (d + 39)) 1038 26 [.ref 56, .int (nI 1), x2] [] m = am_ev (am_call (d + 39)) 1038 63 [.ref 56, .int (nI 1), x2] [] m' ∧ ps_Hg tp tl μ0 T' L' m' := by
  have bad : ∀ (e : Nat × Nat) (L : ps_LW) (m1 : am_Mem), ps_Hf μ0 e m1 → m1 56 11 = nI L.length → ∃ m', am_ev (am_call (d + 39)) 1038 55 [.ref 56, .int (nI 0), x2] [.int (m1 56 11), .ref 56] m1 = am_ev (am_call (d + 39)) 1038 63 [.ref 56, .int (nI 0), x2] [] m' ∧ ps_Hf μ0 e m' := by
    intro e L m1 h h11
    obtain ⟨f1, f2, f3, f4⟩ := h
    rw [q1038_55, q1038_56, q1038_26, if_pos (show nI 0 = 0 from rfl)]
    exact ⟨_, rfl, fun K h1 h2 h3 => by rw [am_up_ne h1]; exact f1 K h1 h2 h3, fun i h0 h1 h2 h3 => by rw [am_upI h0]; exact f2 i h0 h1 h2 h3, by rw [am_upI (by omega)]; exact f3, by rw [am_upI (by omega)]; exact f4⟩
  intro n
  induction n with
  | zero =>
    intro T L m hn hp hG
    have h24 := hG.2.2.2.2.2.1.hd.1
    have h162 := ps_mt_le _ h24
    have b1 : m 56 15 = nI (ps_mt (ps_hk T).1) := by
      obtain ⟨-, -, -, -, -, g1, g2⟩ := hG
      cases T with
      | nil => exact g2.elim
      | cons q R => exact g2.1
    have w := v1037 d hM hG (by omega) hp
    rw [q1038_26, if_neg (show ¬ nI 1 = 0 by decide), b1, ps_pT]
    by_cases hz : (ps_hk T).1 = 0
    · rw [if_pos hz, if_pos (show nI (ps_mt (ps_hk T).1) = 0 by rw [hz]; rfl)]
      exact ⟨m, T, rfl, hG⟩
    · rw [if_neg hz, if_neg (show ¬ nI (ps_mt (ps_hk T).1) = 0 from ps_mtn 0 h24 (by omega) rfl hz)]
      rw [if_neg (show ¬ L.length < 16 by omega)] at w
      by_cases hc : (ps_hk T).1 = 3 ∨ (ps_hk T).1 = 4
      · rw [if_pos hc] at w ⊢
        obtain ⟨m1, e1, e2, e3⟩ := w
        rw [e1, am_bI_ret, if_pos (show nI 0 = 0 from rfl)]
        exact bad _ L m1 e2 e3
      · rw [if_neg hc] at w ⊢
        obtain ⟨m1, e1, e2, e3⟩ := w
        rw [e1, am_bI_ret, if_pos (show nI 0 = 0 from rfl)]
        exact bad _ L m1 e2 e3
  | succ n ih =>
    intro T L m hn hp hG
    have hge := hG.2.2.2.2.2.1
    have h24 := hge.hd.1
    have h162 := ps_mt_le _ h24
    have b1 : m 56 15 = nI (ps_mt (ps_hk T).1) := by
      obtain ⟨-, -, -, -, -, g1, g2⟩ := hG
      cases T with
      | nil => exact g2.elim
      | cons q R => exact g2.1
    have w := v1037 d hM hG (by omega) hp
    rw [q1038_26, if_neg (show ¬ nI 1 = 0 by decide), b1, ps_pT]
    by_cases hz : (ps_hk T).1 = 0
    · rw [if_pos hz, if_pos (show nI (ps_mt (ps_hk T).1) = 0 by rw [hz]; rfl)]
      exact ⟨m, T, rfl, hG⟩
    · rw [if_neg hz, if_neg (show ¬ nI (ps_mt (ps_hk T).1) = 0 from ps_mtn 0 h24 (by omega) rfl hz)]
      rw [if_pos (show L.length < 16 by omega)] at w
      by_cases hc : (ps_hk T).1 = 3 ∨ (ps_hk T).1 = 4
      · rw [if_pos hc] at w ⊢
        cases hr : ps_pL T with
        | inl e =>
          rw [hr] at w
          obtain ⟨m1, e1, e2, e3⟩ := w
          rw [e1, am_bI_ret, if_pos (show nI 0 = 0 from rfl)]
          exact bad _ L m1 e2 e3
        | inr q =>
          rw [hr] at w
          obtain ⟨m1, e1, e2, e3⟩ := w
          obtain ⟨g1, g2, g3, g4⟩ := ps_pL_ok (R := q.1) (c := q.2) hge hz hr
          rw [e1, am_bI_ret, if_neg (show ¬ nI 1 = 0 by decide), q1038_56, e3, show nI L.length + am_c 1 = nI (L.length + 1) from nI_add _ 1]
          have := ih q.1 (L ++ [(decide ((ps_hk T).1 = 3), q.2)]) _ (by rw [List.length_append, List.length_singleton]; omega) (by rw [List.length_append, List.length_singleton, ps_posM_last]; show _ + q.2.length + _ ≤ _; omega) e2
          exact this
      · rw [if_neg hc] at w ⊢
        obtain ⟨m1, e1, e2, e3⟩ := w
        rw [e1, am_bI_ret, if_pos (show nI 0 = 0 from rfl)]
        exact bad _ L m1 e2 e3
theorem v1038_112 (C : am_Ct) (x1 : Int32) {n : Nat} (hn : n ≤ 16) : ∀ (k j : Nat) (m : am_Mem), j + k = n → m 56 11 = nI n → ∃ m', am_ev C 1038 112 [.ref 56, .int x1, .int (nI j)] [] m = am_ev C 1038 186 [.ref 56, .int x1, .int (nI 0)] [] m' ∧ (∀ K, K ≠ 57 → m' K = m K) ∧ (∀ i, i < 440 ∨ 496 ≤ i → m' 57 i = m 57 i) ∧ (∀ l, l < j → m' 57 (440 + l) = m 57 (440 + l) ∧ m' 57 (460 + l) = m 57 (460 + l) ∧ m' 57 (480 + l) = m 57 (480 + l)) ∧ ∀ l, j ≤ l → l < n → m' 57 (440 + l) = m 61 (3 * l) ∧ m' 57 (460 + l) = m 61 (3 * l + 1) ∧ m' 57 (480 + l) = m 61 (3 * l + 2)
  | 0, j, m, hj, h11 => by
    rw [q1038_112, h11, if_pos (by rw [am_leN (by omega) (by omega)]; omega), q1038_184]
    exact ⟨m, rfl, fun _ _ => rfl, fun _ _ => rfl, fun _ _ => ⟨rfl, rfl, rfl⟩, fun l h1 h2 => by omega⟩
  | k + 1, j, m, hj, h11 => by
    have e440 : am_c 440 + nI j = nI (440 + j) := nI_add 440 j
    have e460 : am_c 460 + nI j = nI (460 + j) := nI_add 460 j
    have e480 : am_c 480 + nI j = nI (480 + j) := nI_add 480 j
    have e3 : am_c 3 * nI j = nI (3 * j) := by rw [am_cN, pk_mul]
    have e31 : nI (3 * j) + am_c 1 = nI (3 * j + 1) := nI_add _ 1
    have e32 : nI (3 * j) + am_c 2 = nI (3 * j + 2) := nI_add _ 2
    rw [q1038_112, h11, if_neg (by rw [am_leN (by omega) (by omega)]; omega), e440, e460, e480, e3, e31, e32, am_ixN (show 3 * j < 4294967296 by omega), am_ixN (show 440 + j < 4294967296 by omega), am_ixN (show 3 * j + 1 < 4294967296 by omega), am_ixN (show 460 + j < 4294967296 by omega), am_ixN (show 3 * j + 2 < 4294967296 by omega), am_ixN (show 480 + j < 4294967296 by omega), am_gbI (by omega), am_gbI (by omega), am_gbI (by omega), am_gbI (by omega), am_gbI (by omega), am_gbI (by omega), am_upK (by omega), am_upK (by omega), am_upK (by omega), show nI j + am_c 1 = nI (j + 1) from nI_add _ 1]
    obtain ⟨m', r1, r2, r3, r4, r5⟩ := v1038_112 C x1 hn k (j + 1) (am_up (am_up (am_up m 57 (440 + j) (m 61 (3 * j))) 57 (460 + j) (m 61 (3 * j + 1))) 57 (480 + j) (m 61 (3 * j + 2))) (by omega) (by rw [am_upK (by omega), am_upK (by omega), am_upK (by omega)]; exact h11)
    refine ⟨m', r1, fun K hK => by rw [r2 K hK, am_up_ne hK, am_up_ne hK, am_up_ne hK], fun i hi => by rw [r3 i hi, am_upI (by omega), am_upI (by omega), am_upI (by omega)], fun l hl => ?_, fun l h1 h2 => ?_⟩
    · obtain ⟨s1, s2, s3⟩ := r4 l (by omega)
      rw [s1, s2, s3]
      simp (disch := omega) only [am_upI]
      exact ⟨by trivial, by trivial, by trivial⟩
    · by_cases hl : l = j
      · subst hl
        obtain ⟨s1, s2, s3⟩ := r4 l (by omega)
        rw [s1, s2, s3]
        simp (disch := omega) only [am_upI, am_upS]
        exact ⟨by trivial, by trivial, by trivial⟩
      · obtain ⟨s1, s2, s3⟩ := r5 l (by omega) h2
        rw [s1, s2, s3]
        simp (disch := omega) only [am_upK]
        exact ⟨by trivial, by trivial, by trivial⟩
theorem v1038_186 (C : am_Ct) (x1 : Int32) {s : Nat} (hs : s ≤ 400) : ∀ (k j : Nat) (m : am_Mem), j + k = 2 * s → m 56 12 = nI s → ∃ m', am_ev C 1038 186 [.ref 56, .int x1, .int (nI j)] [] m = am_ret (some (.int (m 56 11))) m' ∧ (∀ K, K ≠ 57 → m' K = m K) ∧ (∀ i, i < 500 + j → m' 57 i = m 57 i) ∧ ∀ i, j ≤ i → i < 2 * s → m' 57 (500 + i) = m 62 i
  | 0, j, m, hj, h12 => by
    rw [q1038_186, h12, am_cN, pk_mul, if_pos (by rw [am_leN (by omega) (by omega)]; omega), q1038_218]
    exact ⟨m, rfl, fun _ _ => rfl, fun _ _ => rfl, fun l h1 h2 => by omega⟩
  | k + 1, j, m, hj, h12 => by
    have e5 : am_c 500 + nI j = nI (500 + j) := nI_add 500 j
    have e2 : am_c 2 * m 56 12 = nI (2 * s) := by rw [h12, am_cN, pk_mul]
    rw [q1038_186, e2, if_neg (by rw [am_leN (by omega) (by omega)]; omega), e5, am_ixN (show j < 4294967296 by omega), am_ixN (show 500 + j < 4294967296 by omega), am_gbI (by omega), am_gbI (by omega), show nI j + am_c 1 = nI (j + 1) from nI_add _ 1]
    obtain ⟨m', r1, r2, r3, r4⟩ := v1038_186 C x1 hs k (j + 1) (am_up m 57 (500 + j) (m 62 j)) (by omega) (by rw [am_upK (by omega)]; exact h12)
    rw [am_upK (by omega)] at r1
    refine ⟨m', r1, fun K hK => by rw [r2 K hK, am_up_ne hK], fun i hi => by rw [r3 i (by omega), am_upI (by omega)], fun i h1 h2 => ?_⟩
    by_cases hi : i = j
    · rw [hi, r3 _ (by omega), am_upS]
    · rw [r4 i (by omega) h2, am_upK (by omega)]
end MTxt
theorem M_text (d : Nat) (O : ps_O) (hO : ps_Ow O) : ps_sM (d + 40) 1038 [.ref 56] O (some (.int (ps_text O).1)) (ps_text O).2 := by
  intro μ h
  obtain ⟨i1, i2, ⟨i3, i3'⟩, ⟨i4, i4'⟩, ⟨i5, i6⟩, i9, i10⟩ := id h
  have htl : O.tl ≤ 400 := hO.2.2.1
  rw [e1038, q1038_0]
  generalize hμ0 : am_up (am_up (am_up (am_up μ 56 18 (am_c 0)) 56 14 (am_c 0)) 56 11 (am_c 0)) 56 12 (am_c 0) = μ0
  have c0 : ∀ K, K ≠ 56 → μ0 K = μ K := fun K hK => by rw [← hμ0, am_up_ne hK, am_up_ne hK, am_up_ne hK, am_up_ne hK]
  have c56 : ∀ i, i ≠ 11 → i ≠ 12 → i ≠ 14 → i ≠ 18 → μ0 56 i = μ 56 i := fun i h1 h2 h3 h4 => by rw [← hμ0, am_upI h2, am_upI h1, am_upI h3, am_upI h4]
  have c18 : μ0 56 18 = am_c 0 := by rw [← hμ0, am_upI (by omega), am_upI (by omega), am_upI (by omega), am_upS]
  have c14 : μ0 56 14 = nI 0 := by rw [← hμ0, am_upI (by omega), am_upI (by omega), am_upS]; rfl
  have c11 : μ0 56 11 = nI 0 := by rw [← hμ0, am_upI (by omega), am_upS]; rfl
  have c12 : μ0 56 12 = nI 0 := by rw [← hμ0, am_upS]; rfl
  have hM : ps_Mt O.tp O.tl μ0 := ⟨htl, by rw [c56 13 (by omega) (by omega) (by omega) (by omega)]; exact i3, fun k hk => ⟨hO.2.2.2.1 k hk, by rw [c0 63 (by omega)]; exact i3' k hk⟩⟩
  obtain ⟨m1, s1, s2, s3⟩ := v1026 (d + 31) O.tl 0 .null .null μ0 hM (by omega) c14
  have hge := ps_tks_ge (tp := O.tp) (tl := O.tl) O.tl 0
  have hlen := ps_tks_len (tp := O.tp) (tl := O.tl) O.tl 0
  have hG : ps_Hg O.tp O.tl μ0 (ps_tks O.tp O.tl O.tl 0) [] m1 := ⟨fun K h1 h2 h3 => s2.1 K h1, fun i h0 h1 h2 h3 => s2.2 i (by omega) (by omega) (by omega) (by omega), by rw [s2.2 11 (by omega) (by omega) (by omega) (by omega)]; exact c11, by rw [s2.2 12 (by omega) (by omega) (by omega) (by omega)]; exact c12, fun l q hq => by simp at hq, hge, s3⟩
  have w := v1038_26 d hM .null 16 _ [] m1 rfl (by rw [show ps_posM [] ([] : ps_LW).length = 0 from rfl]; omega) hG
  have hrd : ps_rd O = ps_pT 16 (ps_tks O.tp O.tl O.tl 0) [] := rfl
  rw [← hrd] at w
  rw [e1026, s1, am_bV_ret, show am_c 1 = nI 1 from rfl]
  unfold ps_text
  cases hr : ps_rd O with
  | inl e =>
    rw [hr] at w
    obtain ⟨m2, e1, e2, e3, e4, e5⟩ := w
    rw [e1, q1038_63, if_pos (show nI 0 = 0 from rfl), q1038_85, q1038_89, if_pos (show nI 0 = 0 from rfl), am_upI (by omega), am_upI (by omega), am_upI (by omega), e4, e5]
    have k : ∀ K, K ≠ 56 → K ≠ 61 → K ≠ 62 → am_up (am_up (am_up m2 56 13 (am_c 0)) 56 20 (nI e.1)) 56 22 (nI e.2) K = μ K := fun K h1 h2 h3 => by rw [am_up_ne h1, am_up_ne h1, am_up_ne h1, e2 K h1 h2 h3, c0 K h1]
    have k56 : ∀ i, i < 11 → am_up (am_up (am_up m2 56 13 (am_c 0)) 56 20 (nI e.1)) 56 22 (nI e.2) 56 i = μ 56 i := fun i hi => by rw [am_upI (by omega), am_upI (by omega), am_upI (by omega), e3 i (by omega) (by omega) (by omega) (by omega), c56 i (by omega) (by omega) (by omega) (by omega)]
    refine ⟨_, rfl, ⟨i1.off (k 57 (by omega) (by omega) (by omega)), i2.off (k 57 (by omega) (by omega) (by omega)), ⟨by rw [am_upI (by omega), am_upI (by omega), am_upS]; rfl, fun i hi => absurd hi (Nat.not_lt_zero _)⟩, ⟨by rw [am_upI (by omega), am_upS], by rw [am_upS]⟩, ⟨by rw [k56 3 (by omega)]; exact i5, fun j p hp => ?_⟩, fun hn => by rw [k56 4 (by omega)]; exact i9 hn, fun S' hS => ?_⟩, fun K hK => k K (by omega) (by omega) (by omega)⟩
    · rw [k 59 (by omega) (by omega) (by omega)]
      exact i6 j p hp
    · obtain ⟨a1, a2, a3⟩ := i10 S' hS
      exact ⟨by rw [k56 4 (by omega)]; exact a1, a2.off (k 58 (by omega) (by omega) (by omega)), a3.off (k 58 (by omega) (by omega) (by omega))⟩
  | inr L =>
    have hL := ps_rd_ok hO hr
    rw [hr] at w
    obtain ⟨m2, T', e1, e2, e3, e4, e5, e6, -, -⟩ := w
    rw [e1, q1038_63, if_neg (show ¬ nI 1 = 0 by decide), q1038_89, if_neg (show ¬ nI 1 = 0 by decide), q1038_98, am_upI (show 18 ≠ 13 by omega), e3 18 (by omega) (by omega) (by omega) (by omega), c18]
    generalize hm3 : am_up (am_up (am_up m2 56 13 (am_c 0)) 56 20 (am_c 0)) 56 22 (am_c (-1)) = m3
    have k3 : ∀ K, K ≠ 56 → m3 K = m2 K := fun K h1 => by rw [← hm3, am_up_ne h1, am_up_ne h1, am_up_ne h1]
    have k356 : ∀ i, i ≠ 13 → i ≠ 20 → i ≠ 22 → m3 56 i = m2 56 i := fun i h1 h2 h3 => by rw [← hm3, am_upI h3, am_upI h2, am_upI h1]
    have k13 : m3 56 13 = am_c 0 := by rw [← hm3, am_upI (by omega), am_upI (by omega), am_upS]
    have k20 : m3 56 20 = am_c 0 := by rw [← hm3, am_upI (by omega), am_upS]
    have k22 : m3 56 22 = am_c (-1) := by rw [← hm3, am_upS]
    have k11 : m3 56 11 = nI L.length := by rw [k356 11 (by omega) (by omega) (by omega)]; exact e4
    have k12 : m3 56 12 = nI (ps_posM L L.length) := by rw [k356 12 (by omega) (by omega) (by omega)]; exact e5
    rw [k11]
    obtain ⟨m4, r1, r2, r3, -, r5⟩ := v1038_112 (am_call (d + 39)) (nI 1) hL.1 L.length 0 (am_up m3 57 435 (nI L.length)) (by omega) (by rw [am_upK (by omega)]; exact k11)
    obtain ⟨m5, u1, u2, u3, u4⟩ := v1038_186 (am_call (d + 39)) (nI 1) hL.2.2.1 (2 * ps_posM L L.length) 0 m4 (by omega) (by rw [r2 56 (by omega), am_upK (by omega)]; exact k12)
    have k5 : ∀ K, K ≠ 57 → m5 K = m3 K := fun K h1 => by rw [u2 K h1, r2 K h1, am_up_ne h1]
    have k : ∀ K, K ≠ 56 → K ≠ 57 → K ≠ 61 → K ≠ 62 → m5 K = μ K := fun K h1 h2 h3 h4 => by rw [k5 K h2, k3 K h1, e2 K h1 h3 h4, c0 K h1]
    have k56 : ∀ i, i < 11 → m5 56 i = μ 56 i := fun i hi => by rw [k5 56 (by omega), k356 i (by omega) (by omega) (by omega), e3 i (by omega) (by omega) (by omega) (by omega), c56 i (by omega) (by omega) (by omega) (by omega)]
    have k57 : ∀ i, i < 435 → m5 57 i = μ 57 i := fun i hi => by rw [u3 i (by omega), r3 i (by omega), am_upI (by omega), k3 57 (by omega), e2 57 (by omega) (by omega) (by omega), c0 57 (by omega)]
    have m11 : m4 56 11 = nI L.length := by rw [r2 56 (by omega), am_upK (by omega)]; exact k11
    rw [show am_c 0 = nI 0 from rfl, r1, u1, m11]
    refine ⟨m5, rfl, ⟨?_, ⟨?_, fun l q hq => ?_⟩, ⟨by rw [k5 56 (by omega)]; exact k13, fun i hi => absurd hi (Nat.not_lt_zero _)⟩, ⟨by rw [k5 56 (by omega)]; exact k20, by rw [k5 56 (by omega)]; exact k22⟩, ⟨by rw [k56 3 (by omega)]; exact i5, fun j p hp => ?_⟩, fun hn => by rw [k56 4 (by omega)]; exact i9 hn, fun S' hS => ?_⟩, fun K hK => k K (by omega) (by omega) (by omega) (by omega)⟩
    · have := i1.lo (μ' := m5) hO.1 k57
      exact this
    · rw [u3 435 (by omega), r3 435 (by omega), am_upS]
      rfl
    · have hq : L[l]? = some q := hq
      have hl := (List.getElem?_eq_some_iff.mp hq).1
      have hl16 := hL.1
      have hp4 := hL.2.2.1
      obtain ⟨g1, g2, g3, g4⟩ := e6 l q hq
      obtain ⟨f1, f2, f3⟩ := r5 l (Nat.zero_le _) hl
      have hle := ps_posM_le hq
      refine ⟨?_, ?_, ?_, fun j cj hj => ?_⟩
      · rw [u3 _ (by omega), f1, am_upK (by omega), k3 61 (by omega)]; exact g1
      · rw [u3 _ (by omega), f2, am_upK (by omega), k3 61 (by omega)]; exact g2
      · rw [u3 _ (by omega), f3, am_upK (by omega), k3 61 (by omega)]; exact g3
      · have hj' := (List.getElem?_eq_some_iff.mp hj).1
        obtain ⟨z1, z2⟩ := g4 j cj hj
        have m62 : m4 62 = m2 62 := by rw [r2 62 (by omega), am_up_ne (by omega), k3 62 (by omega)]
        have x1 : m5 57 (500 + 2 * (ps_posM L l + j)) = m2 62 (2 * (ps_posM L l + j)) := by rw [u4 _ (Nat.zero_le _) (by omega), m62]
        have x2 : m5 57 (500 + 2 * (ps_posM L l + j) + 1) = m2 62 (2 * (ps_posM L l + j) + 1) := by rw [Nat.add_assoc, u4 _ (Nat.zero_le _) (by omega), m62]
        exact ⟨x1.trans z1, fun hk => x2.trans (z2 hk)⟩
    · rw [k 59 (by omega) (by omega) (by omega) (by omega)]
      exact i6 j p hp
    · obtain ⟨a1, a2, a3⟩ := i10 S' hS
      exact ⟨by rw [k56 4 (by omega)]; exact a1, a2.off (k 58 (by omega) (by omega) (by omega) (by omega)), a3.off (k 58 (by omega) (by omega) (by omega) (by omega))⟩
