variable {bG : Nat}
/-! the law's text: the component -/
theorem ps_posM_app {L : ps_LW} {x : Bool × List (Nat × Nat)} {l : Nat} (h : l ≤ L.length) : ps_posM (L ++ [x]) l = ps_posM L l := by
  unfold ps_posM
  rw [List.take_append_of_le_length h]
theorem ps_posM_last (L : ps_LW) (x : Bool × List (Nat × Nat)) : ps_posM (L ++ [x]) (L.length + 1) = ps_posM L L.length + x.2.length := by
  unfold ps_posM
  rw [List.take_of_length_le (by rw [List.length_append]; exact Nat.le_refl _), List.take_of_length_le (Nat.le_refl _), List.map_append, List.sum_append]
  rfl
theorem ps_posM_le {L : ps_LW} {l : Nat} {q : Bool × List (Nat × Nat)} (h : L[l]? = some q) : ps_posM L l + q.2.length ≤ ps_posM L L.length := by
  have h1 := ps_pos_succ (fun q : Bool × List (Nat × Nat) => q.2.length) L l q h
  have h2 := ps_posC_mono (f := fun q : Bool × List (Nat × Nat) => q.2.length) L (l + 1)
  have h3 : ps_posM L L.length = (L.map (fun q => q.2.length)).sum := by unfold ps_posM; rw [List.take_of_length_le (Nat.le_refl _)]
  have h4 : ps_posM L l = ((L.take l).map (fun q => q.2.length)).sum := rfl
  omega
theorem ps_pT_ok : ∀ (n : Nat) (T : List ps_K) (a L : ps_LW), ps_ge T → a.length + n = 16 → ps_posC a a.length + T.length ≤ 401 → ps_posM a a.length + T.length ≤ 401 → (∀ q ∈ a, q.2 = [] ∨ ps_ty q.2 []) → ps_pT n T a = .inr L → ps_Lw L := by
  intro n
  induction n with
  | zero =>
    intro T a L hT ha h1 h2 h3 hr
    have := hT.hd.2.2
    rw [ps_pT] at hr
    by_cases h0 : (ps_hk T).1 = 0
    · rw [if_pos h0] at hr
      cases hr
      exact ⟨by omega, by omega, by omega, h3⟩
    · rw [if_neg h0] at hr
      split at hr <;> exact absurd hr (by simp)
  | succ n ih =>
    intro T a L hT ha h1 h2 h3 hr
    have := hT.hd.2.2
    rw [ps_pT] at hr
    by_cases h0 : (ps_hk T).1 = 0
    · rw [if_pos h0] at hr
      cases hr
      exact ⟨by omega, by omega, by omega, h3⟩
    · rw [if_neg h0] at hr
      by_cases hc : (ps_hk T).1 = 3 ∨ (ps_hk T).1 = 4
      · rw [if_pos hc] at hr
        cases hq : ps_pL T with
        | inl e => rw [hq] at hr; exact absurd hr (by simp)
        | inr q =>
          rw [hq] at hr
          obtain ⟨g1, g2, g3, g4⟩ := ps_pL_ok (R := q.1) (c := q.2) hT h0 hq
          have hr : ps_pT n q.1 (a ++ [(decide ((ps_hk T).1 = 3), q.2)]) = .inr L := hr
          refine ih q.1 _ L g1 (by rw [List.length_append, List.length_singleton]; omega) ?_ ?_ ?_ hr
          · rw [List.length_append, List.length_singleton, ps_posC_last]
            show _ + (ps_encs q.2).length + _ ≤ _
            omega
          · rw [List.length_append, List.length_singleton, ps_posM_last]
            show _ + q.2.length + _ ≤ _
            omega
          · intro x hx
            rcases List.mem_append.mp hx with hx | hx
            · exact h3 x hx
            · rw [List.mem_singleton] at hx
              rw [hx]
              exact g4
      · rw [if_neg hc] at hr
        exact absurd hr (by simp)
def ps_S.lawed (S : ps_S) (L : ps_LW) : ps_S := (S.w, S.mk, S.kn, S.lim, S.chg, S.ed, S.sta, S.n, S.hd, S.ct, S.us, S.bn, S.bk, L)
def ps_rd (O : ps_O) : Sum (Nat × Nat) ps_LW := ps_pT 16 (ps_tks O.tp O.tl O.tl 0) []
def ps_text (O : ps_O) : Int32 × ps_O := match ps_rd O with
  | .inl e => (am_c (-1), (O.S, 0, O.tp, nI e.1, nI e.2, O.past, O.img))
  | .inr L => (nI L.length, (O.S.lawed L, 0, O.tp, am_c 0, am_c (-1), O.past, O.img))
theorem ps_rd_ok {O : ps_O} (hO : ps_Ow O) {L : ps_LW} (h : ps_rd O = .inr L) : ps_Lw L := by
  have h1 : O.tl ≤ 400 := hO.2.2.1
  have h2 := ps_tks_len (tp := O.tp) (tl := O.tl) O.tl 0
  have z1 : ps_posC [] ([] : ps_LW).length = 0 := rfl
  have z2 : ps_posM [] ([] : ps_LW).length = 0 := rfl
  exact ps_pT_ok 16 _ [] L (ps_tks_ge O.tl 0) rfl (by omega) (by omega) (fun q hq => by simp at hq) h
theorem W_text (O : ps_O) (hO : ps_Ow O) : ps_Ow (ps_text O).2 := by
  unfold ps_text
  obtain ⟨o1, o2, o3, o4, o5, o6, o7, o8⟩ := id hO
  cases hr : ps_rd O with
  | inl e => exact ⟨o1, o2, Nat.zero_le _, fun i hi => absurd hi (Nat.not_lt_zero _), o5, o6, o7, o8⟩
  | inr L =>
    have hL := ps_rd_ok hO hr
    obtain ⟨w1, w2, w3, w4, w5, w6, w7, w8, w9, -⟩ := o1
    exact ⟨⟨w1, w2, w3, w4, w5, w6, w7, w8, w9, hL.1⟩, hL, Nat.zero_le _, fun i hi => absurd hi (Nat.not_lt_zero _), o5, o6, o7, o8⟩
theorem w213a (d : Nat) {μ : am_Mem} (h : μ 26 3 = 0) : am_call (d + 1) 213 [.ref 26] μ = am_ret (some (.int (nI 0))) μ := by
  rw [e213, q213_0, if_pos h, q213_11, q213_12]
  rfl
theorem w213b (d : Nat) {μ : am_Mem} (h : ¬ μ 26 3 = 0) : am_call (d + 1) 213 [.ref 26] μ = am_ret (some (.int (nI 1))) μ := by
  rw [e213, q213_0, if_neg h, q213_12]
  rfl
/-- a line that failed ends the loop -/
theorem w909f (d x : Nat) (μ : am_Mem) : am_ev (am_call d) 909 24 [.ref 0, .int (nI 0), .int (nI x)] [] μ = am_ret (some (.int (am_c (-1)))) μ := by
  rw [q909_24, q909_58, if_pos (show nI 0 = 0 from rfl), if_pos (show nI 0 = 0 from rfl)]
  split <;> rfl
theorem w909 (d : Nat) {tp : Nat → Nat} {tl : Nat} (htl : tl ≤ 400) {μ : am_Mem} (h4 : μ 0 4 = nI tl) (hb : ∀ k, k < tl → tp k < 256 ∧ μ 25 k = ps_by (tp k)) :
    match ps_pT 16 (ps_tks tp tl tl 0) [] with
    | .inl e => ∃ μ', am_call (d + 35) 909 [.ref 0] μ = am_ret (some (.int (am_c (-1)))) μ' ∧ (∀ K, K < 26 ∨ 34 < K → μ' K = am_up μ 0 4 (am_c 0) K) ∧ μ' 26 5 = nI e.1 ∧ μ' 26 6 = nI e.2
    | .inr L => ∃ μ' x, am_call (d + 35) 909 [.ref 0] μ = am_ev (am_call (d + 34)) 909 64 [.ref 0, .int (nI 1), .int x] [] μ' ∧ (∀ K, K < 26 ∨ 34 < K → μ' K = am_up μ 0 4 (am_c 0) K) ∧ μ' 26 5 = am_c 0 ∧ μ' 26 6 = am_c (-1) ∧ ps_Lc 31 L μ' := by
  obtain ⟨μ1, s1, s2, s3⟩ := w601 (d + 26) htl hb
  have hge := ps_tks_ge (tp := tp) (tl := tl) tl 0
  have hlen := ps_tks_len (tp := tp) (tl := tl) tl 0
  generalize ps_tks tp tl tl 0 = T0 at s3 hge hlen ⊢
  have h28 : μ1 28 0 = nI (ps_hk T0).1 := (s3.2 0 _ (ps_hk_get (T := T0) (r := 0) rfl hge.hd.2.2)).1
  rw [e909, q909_0, h4, e212, q212_0, s1, am_bV_ret, am_bV_ret, am_upK (by omega), h28]
  generalize hμ0 : am_up (am_up (am_up (am_up (am_up (am_up (am_up μ1 26 2 (am_c 0)) 26 3 (nI (ps_hk T0).1)) 26 4 (am_c 0)) 26 5 (am_c 0)) 26 6 (am_c (-1))) 31 0 (am_c 0)) 0 4 (am_c 0) = μ0
  have c0 : ∀ K, K ≠ 0 → K ≠ 26 → K ≠ 31 → μ0 K = μ1 K := fun K h0 h1 h2 => by rw [← hμ0, am_up_ne h0, am_up_ne h2, am_up_ne h1, am_up_ne h1, am_up_ne h1, am_up_ne h1, am_up_ne h1]
  have m0 : μ1 0 = μ 0 := s2 0 (fun z => by simp at z)
  have cμ : ∀ K, K < 26 ∨ 34 < K → μ0 K = am_up μ 0 4 (am_c 0) K := fun K hK => by
    by_cases hK0 : K = 0
    · subst hK0
      funext i
      by_cases hi : i = 4
      · subst hi; rw [← hμ0, am_upS, am_upS]
      · rw [← hμ0, am_upI hi, am_upI hi, am_up_ne (by omega), am_up_ne (by omega), am_up_ne (by omega), am_up_ne (by omega), am_up_ne (by omega), am_up_ne (by omega), m0]
    · rw [c0 K hK0 (by omega) (by omega), am_up_ne hK0]
      exact s2 K (fun z => by simp at z; omega)
  have hk : ps_Tk T0 μ0 := s3.off (fun K hK => c0 K (by omega) (by omega) (by omega))
  have h5 : μ0 26 5 = am_c 0 := by rw [← hμ0, am_upK (by omega), am_upK (by omega), am_upI (by omega), am_upS]
  have h6 : μ0 26 6 = am_c (-1) := by rw [← hμ0, am_upK (by omega), am_upK (by omega), am_upS]
  have g0 : ps_Gg T0 μ0 T0 [] μ0 := by
    refine ⟨fun _ _ => rfl, fun _ _ => rfl, ⟨by rw [← hμ0, am_upK (by omega), am_upS]; rfl, fun l q hq => by simp at hq⟩, ?_, hge, 0, by omega, rfl, ?_, ?_⟩
    · rw [← hμ0, am_upK (by omega), am_upK (by omega), am_upI (by omega), am_upI (by omega), am_upS]; rfl
    · rw [← hμ0, am_upK (by omega), am_upK (by omega), am_upI (by omega), am_upI (by omega), am_upI (by omega), am_upI (by omega), am_upS]; rfl
    · rw [← hμ0, am_upK (by omega), am_upK (by omega), am_upI (by omega), am_upI (by omega), am_upI (by omega), am_upS]
  have lp : ∀ (n : Nat) (T : List ps_K) (L : ps_LW) (μ2 : am_Mem), L.length + n = 16 → ps_posC L L.length + T.length ≤ 401 → ps_Gg T0 μ0 T L μ2 →
      match ps_pT n T L with
      | .inl e => ∃ μ', am_ev (am_call (d + 34)) 909 24 [.ref 0, .int (nI 1), .int (nI L.length)] [] μ2 = am_ret (some (.int (am_c (-1)))) μ' ∧ ps_Gf μ0 e μ'
      | .inr L' => ∃ μ' x, am_ev (am_call (d + 34)) 909 24 [.ref 0, .int (nI 1), .int (nI L.length)] [] μ2 = am_ev (am_call (d + 34)) 909 64 [.ref 0, .int (nI 1), .int x] [] μ' ∧ (∀ K, K < 26 ∨ (26 < K ∧ K < 31) ∨ 34 < K → μ' K = μ0 K) ∧ (∀ i, i < 2 ∨ 5 ≤ i → μ' 26 i = μ0 26 i) ∧ ps_Lc 31 L' μ' := by
    intro n
    induction n with
    | zero =>
      intro T L μ2 hn hp hG
      obtain ⟨a1, a2, a3, a4, a5, r, b1, b2, b3, b4⟩ := id hG
      have h24 := a5.hd.1
      have w := w206 (d + 1) hk (by omega) hG (by omega) hp
      rw [show d + 1 + 33 = d + 34 from rfl] at w
      rw [q909_24, if_neg (by rw [am_cN, am_ltN (by omega) (by omega)]; omega), if_neg (by decide), ps_pT]
      by_cases hz : (ps_hk T).1 = 0
      · rw [if_pos hz, w213a (d + 33) (by rw [b4, hz]; rfl), am_bI_ret, if_pos (show nI 0 = 0 from rfl)]
        exact ⟨μ2, _, by rw [q909_58, if_neg (by decide)], a1, a2, a3⟩
      · rw [if_neg hz, w213b (d + 33) (by rw [b4, am_eq0 (by omega)]; exact hz), am_bI_ret, if_neg (show ¬ nI 1 = 0 by decide)]
        rw [if_neg (show ¬ L.length < 16 by omega)] at w
        by_cases hc : (ps_hk T).1 = 3 ∨ (ps_hk T).1 = 4
        · rw [if_pos hc] at w ⊢
          obtain ⟨μ', e1, e2⟩ := w
          rw [e1, am_bI_ret, show nI L.length + am_c 1 = nI (L.length + 1) from nI_add _ 1, w909f]
          exact ⟨μ', rfl, e2⟩
        · rw [if_neg hc] at w ⊢
          obtain ⟨μ', e1, e2⟩ := w
          rw [e1, am_bI_ret, show nI L.length + am_c 1 = nI (L.length + 1) from nI_add _ 1, w909f]
          exact ⟨μ', rfl, e2⟩
    | succ n ih =>
      intro T L μ2 hn hp hG
      obtain ⟨a1, a2, a3, a4, a5, r, b1, b2, b3, b4⟩ := id hG
      have h24 := a5.hd.1
      have w := w206 (d + 1) hk (by omega) hG (by omega) hp
      rw [show d + 1 + 33 = d + 34 from rfl] at w
      rw [q909_24, if_neg (by rw [am_cN, am_ltN (by omega) (by omega)]; omega), if_neg (by decide), ps_pT]
      by_cases hz : (ps_hk T).1 = 0
      · rw [if_pos hz, w213a (d + 33) (by rw [b4, hz]; rfl), am_bI_ret, if_pos (show nI 0 = 0 from rfl)]
        exact ⟨μ2, _, by rw [q909_58, if_neg (by decide)], a1, a2, a3⟩
      · rw [if_neg hz, w213b (d + 33) (by rw [b4, am_eq0 (by omega)]; exact hz), am_bI_ret, if_neg (show ¬ nI 1 = 0 by decide)]
        rw [if_pos (show L.length < 16 by omega)] at w
        by_cases hc : (ps_hk T).1 = 3 ∨ (ps_hk T).1 = 4
        · rw [if_pos hc] at w ⊢
          cases hr : ps_pL T with
          | inl e =>
            rw [hr] at w
            obtain ⟨μ', e1, e2⟩ := w
            rw [e1, am_bI_ret, show nI L.length + am_c 1 = nI (L.length + 1) from nI_add _ 1, w909f]
            exact ⟨μ', rfl, e2⟩
          | inr q =>
            rw [hr] at w
            obtain ⟨μ', e1, e2⟩ := w
            obtain ⟨g1, g2, g3, g4⟩ := ps_pL_ok (R := q.1) (c := q.2) a5 hz hr
            rw [e1, am_bI_ret, show nI L.length + am_c 1 = nI (L.length + 1) from nI_add _ 1]
            have := ih q.1 (L ++ [(decide ((ps_hk T).1 = 3), q.2)]) μ' (by rw [List.length_append, List.length_singleton]; omega) (by rw [List.length_append, List.length_singleton, ps_posC_last]; show _ + (ps_encs q.2).length + _ ≤ _; omega) e2
            rw [List.length_append, List.length_singleton] at this
            exact this
        · rw [if_neg hc] at w ⊢
          obtain ⟨μ', e1, e2⟩ := w
          rw [e1, am_bI_ret, show nI L.length + am_c 1 = nI (L.length + 1) from nI_add _ 1, w909f]
          exact ⟨μ', rfl, e2⟩
  have fin := lp 16 T0 [] μ0 rfl (by rw [show ps_posC [] ([] : ps_LW).length = 0 from rfl]; omega) g0
  rw [show am_c 1 = nI 1 from rfl, show am_c 0 = nI ([] : ps_LW).length from rfl]
  cases hr : ps_pT 16 T0 [] with
  | inl e =>
    rw [hr] at fin
    obtain ⟨μ', e1, e2, e3, e4, e5⟩ := fin
    exact ⟨μ', e1, fun K hK => by rw [e2 K (by omega)]; exact cμ K hK, e4, e5⟩
  | inr L =>
    rw [hr] at fin
    obtain ⟨μ', x, e1, e2, e3, e4⟩ := fin
    exact ⟨μ', x, e1, fun K hK => by rw [e2 K (by omega)]; exact cμ K hK, by rw [e3 5 (by omega)]; exact h5, by rw [e3 6 (by omega)]; exact h6, e4⟩
theorem C_text (d : Nat) (O : ps_O) (hO : ps_Ow O) : ps_sC bG (d + 35) 909 [.ref 0] O (some (.int (ps_text O).1)) (ps_text O).2 := by
  intro μ h
  obtain ⟨i1, i2, ⟨i3, i3'⟩, ⟨i4, i4'⟩, ⟨i5, nw, i6, i7, i8⟩, i9, i10, sp, i11, i12, i13⟩ := id h
  have w := w909 d (tp := O.tp) (tl := O.tl) hO.2.2.1 (μ := μ) i3 (fun k hk => ⟨hO.2.2.2.1 k hk, i3' k hk⟩)
  unfold ps_text
  have hrd : ps_rd O = ps_pT 16 (ps_tks O.tp O.tl O.tl 0) [] := rfl
  rw [← hrd] at w
  cases hr : ps_rd O with
  | inl e =>
    rw [hr] at w
    obtain ⟨μ1, e1, e2, e3, e4⟩ := w
    rw [e1]
    have k : ∀ K, K ≠ 0 → K < 26 ∨ 34 < K → μ1 K = μ K := fun K h1 h2 => by rw [e2 K h2, am_up_ne h1]
    refine ⟨_, rfl, ⟨i1.off (fun j hj => k _ (by omega) (by omega)), i2.off (k 7 (by omega) (by omega)) (k 8 (by omega) (by omega)) (k 9 (by omega) (by omega)) (k 10 (by omega) (by omega)), ⟨by rw [e2 0 (by omega), am_upS]; rfl, fun i hi => absurd hi (Nat.not_lt_zero _)⟩, ⟨e3, e4⟩, ⟨by rw [k 37 (by omega) (by omega)]; exact i5, nw, i6, by rw [k 37 (by omega) (by omega)]; exact i7, fun j p hp => ?_⟩, fun hn => by rw [e2 0 (by omega), am_upI (by omega)]; exact i9 hn, fun S' hS => ?_, sp, i11, by rw [k 48 (by omega) (by omega)]; exact i12, fun i hi => by rw [k 55 (by omega) (by omega)]; exact i13 i hi⟩, fun K hK => k K (by omega) (by omega)⟩
    · rw [k 38 (by omega) (by omega), k 39 (by omega) (by omega), k 40 (by omega) (by omega)]
      exact i8 j p hp
    · obtain ⟨a1, a2, a3⟩ := i10 S' hS
      exact ⟨by rw [e2 0 (by omega), am_upI (by omega)]; exact a1, a2.off (fun j hj => k _ (by omega) (by omega)), a3.off (k 19 (by omega) (by omega)) (k 20 (by omega) (by omega)) (k 21 (by omega) (by omega)) (k 22 (by omega) (by omega))⟩
  | inr L =>
    have hL := ps_rd_ok hO hr
    rw [hr] at w
    obtain ⟨μ1, x, e1, e2, e3, e4, e5⟩ := w
    rw [e1, q909_64]
    obtain ⟨μ2, c0, c1⟩ := c101c (d + 32) μ1
    have hLc := ps_Lc.cp (F := 31) (T := 7) (law := L) (μ := μ1) (μ' := μ2) e5 hL c1
    obtain ⟨-, -, -, -, c2⟩ := c1
    rw [c0, am_bV_ret, hLc.1]
    have k : ∀ K, K ≠ 0 → K < 7 ∨ 10 < K → K < 26 ∨ 34 < K → μ2 K = μ K := fun K h1 h2 h3 => by rw [c2 K h2, e2 K h3, am_up_ne h1]
    have k0 : μ2 0 = am_up μ 0 4 (am_c 0) 0 := by rw [c2 0 (by omega), e2 0 (by omega)]
    have k26 : μ2 26 = μ1 26 := c2 26 (by omega)
    refine ⟨μ2, rfl, ⟨?_, hLc, ⟨by rw [k0, am_upS]; rfl, fun i hi => absurd hi (Nat.not_lt_zero _)⟩, ⟨by rw [k26]; exact e3, by rw [k26]; exact e4⟩, ⟨by rw [k 37 (by omega) (by omega) (by omega)]; exact i5, nw, i6, by rw [k 37 (by omega) (by omega) (by omega)]; exact i7, fun j p hp => ?_⟩, fun hn => by rw [k0, am_upI (by omega)]; exact i9 hn, fun S' hS => ?_, sp, i11, by rw [k 48 (by omega) (by omega) (by omega)]; exact i12, fun i hi => by rw [k 55 (by omega) (by omega) (by omega)]; exact i13 i hi⟩, fun K hK => k K (by omega) (by omega) (by omega)⟩
    · have := i1.off (μ' := μ2) (fun j hj => k _ (by omega) (by omega) (by omega))
      exact this
    · rw [k 38 (by omega) (by omega) (by omega), k 39 (by omega) (by omega) (by omega), k 40 (by omega) (by omega) (by omega)]
      exact i8 j p hp
    · obtain ⟨a1, a2, a3⟩ := i10 S' hS
      exact ⟨by rw [k0, am_upI (by omega)]; exact a1, a2.off (fun j hj => k _ (by omega) (by omega) (by omega)), a3.off (k 19 (by omega) (by omega) (by omega)) (k 20 (by omega) (by omega) (by omega)) (k 21 (by omega) (by omega) (by omega)) (k 22 (by omega) (by omega) (by omega))⟩
