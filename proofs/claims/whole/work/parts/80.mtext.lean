/-! the law's text: the model's lines, the law -/
def ps_c62 (c : ps_C) (s : Nat) (μ : am_Mem) : Prop := ∀ j q, c[j]? = some q → μ 62 (2 * (s + j)) = nI q.1 ∧ (q.1 = 0 ∨ q.1 = 16 → μ 62 (2 * (s + j) + 1) = nI q.2)
def ps_L61 (L : ps_LW) (μ : am_Mem) : Prop := ∀ l q, L[l]? = some q → μ 61 (3 * l) = nI (!q.1).toNat ∧ μ 61 (3 * l + 1) = nI (ps_posM L l) ∧ μ 61 (3 * l + 2) = nI (ps_posM L (l + 1)) ∧ ps_c62 q.2 (ps_posM L l) μ
def ps_Hg (tp : Nat → Nat) (tl : Nat) (μ0 : am_Mem) (T : List ps_K) (L : ps_LW) (μ : am_Mem) : Prop := (∀ K, K ≠ 56 → K ≠ 61 → K ≠ 62 → μ K = μ0 K) ∧ (∀ i, i ≠ 11 → i ≠ 12 → i < 14 ∨ 17 < i → i ≠ 21 → μ 56 i = μ0 56 i) ∧ μ 56 11 = nI L.length ∧ μ 56 12 = nI (ps_posM L L.length) ∧ ps_L61 L μ ∧ ps_ge T ∧ ps_Mn tp tl T μ
def ps_Hf (μ0 : am_Mem) (e : Nat × Nat) (μ : am_Mem) : Prop := (∀ K, K ≠ 56 → K ≠ 61 → K ≠ 62 → μ K = μ0 K) ∧ (∀ i, i ≠ 11 → i ≠ 12 → i < 14 ∨ 19 < i → i ≠ 21 → μ 56 i = μ0 56 i) ∧ μ 56 18 = nI e.1 ∧ μ 56 19 = nI e.2
section ParP
variable {tp : Nat → Nat} {tl : Nat} {μ0 : am_Mem}
theorem ps_Ng.up {s0 o : Nat} {T : List ps_K} {cs : ps_C} {μ : am_Mem} (h : ps_Ng tp tl μ0 s0 o T cs μ) {K i : Nat} {x : Int32} (h1 : K ≠ 56) (h2 : K ≠ 62) : ps_Ng tp tl (am_up μ K i x) s0 o T cs (am_up μ K i x) := by
  obtain ⟨-, -, a3, -, a5, a6, a7, a8⟩ := h
  exact ⟨fun _ _ _ => rfl, fun _ _ _ _ => rfl, by rw [am_upK (Ne.symm h1)]; exact a3, fun _ _ => rfl, fun j q hq => by rw [am_upK (Ne.symm h2), am_upK (Ne.symm h2)]; exact a5 j q hq, by rw [am_upK (Ne.symm h1)]; exact a6, a7, a8.mk (fun i h3 h4 => by rw [am_upK (Ne.symm h1)])⟩
theorem v1037 (d : Nat) (hM : ps_Mt tp tl μ0) {T : List ps_K} {L : ps_LW} {μ : am_Mem} (h : ps_Hg tp tl μ0 T L μ) (hL : L.length ≤ 16) (hb : ps_posM L L.length + T.length ≤ 401) :
    match (if (ps_hk T).1 = 3 ∨ (ps_hk T).1 = 4 then (if L.length < 16 then ps_pL T else .inl (3, (ps_hk T).2.1)) else .inl (1, (ps_hk T).2.1) : ps_R) with
    | .inl e => ∃ μ', am_call (d + 39) 1037 [.ref 56] μ = am_ret (some (.int (nI 0))) μ' ∧ ps_Hf μ0 e μ' ∧ μ' 56 11 = nI L.length
    | .inr q => ∃ μ', am_call (d + 39) 1037 [.ref 56] μ = am_ret (some (.int (nI 1))) μ' ∧ ps_Hg tp tl μ0 q.1 (L ++ [(decide ((ps_hk T).1 = 3), q.2)]) (am_up μ' 56 11 (nI (L.length + 1))) ∧ μ' 56 11 = nI L.length := by
  obtain ⟨a1, a2, a3, a4, a5, a6, a7⟩ := id h
  have h24 := a6.hd.1
  have h162 := ps_mt_le _ h24
  have hMμ : ps_Mt tp tl μ := hM.off (a2 13 (by omega) (by omega) (by omega) (by omega)) (a1 63 (by omega) (by omega) (by omega))
  have g0 : ∀ o : Nat, ps_Ng tp tl μ (ps_posM L L.length) o T [] (am_up μ 56 21 (nI o)) := fun o => ⟨fun K h1 h2 => am_up_ne h1, fun i h1 h2 h3 => am_upI h3, am_upS _ _ _ _, fun i hi => am_upK (by omega), fun j q hq => by simp at hq, by rw [am_upI (by omega)]; exact a4, a6, a7.mk (fun i h1 h2 => by rw [am_upI (by omega)])⟩
  have b1 : μ 56 15 = nI (ps_mt (ps_hk T).1) := by have := (g0 0).h.1; rw [am_upI (by omega)] at this; exact this
  have b2 : μ 56 16 = nI (ps_hk T).2.1 := by have := (g0 0).h.2.1; rw [am_upI (by omega)] at this; exact this
  have fail : ∀ (k : Nat), ∃ μ', am_bI (am_call (d + 38) 1027 [.ref 56, .int (nI k)] μ) (fun r1 m1 => am_gb (Nat.blt (am_ix r1) 2) (am_ret (some (.int r1)) m1)) = am_ret (some (.int (nI 0))) μ' ∧ ps_Hf μ0 (k, (ps_hk T).2.1) μ' ∧ μ' 56 11 = nI L.length := fun k => by
    rw [e1027, q1027_0, am_upI (by omega), b2, am_bI_ret, show am_c 0 = nI 0 from rfl, ps_gb01 (by omega)]
    exact ⟨_, rfl, ⟨fun K h1 h2 h3 => by rw [am_up_ne h1, am_up_ne h1]; exact a1 K h1 h2 h3, fun i h1 h2 h3 h4 => by rw [am_upI (by omega), am_upI (by omega)]; exact a2 i h1 h2 (by omega) h4, by rw [am_upI (by omega), am_upS], by rw [am_upS]⟩, by rw [am_upI (by omega), am_upI (by omega)]; exact a3⟩
  have hw : (20 ≤ ps_mt (ps_hk T).1 ∧ ps_mt (ps_hk T).1 ≤ 21) ↔ ((ps_hk T).1 = 3 ∨ (ps_hk T).1 = 4) := by
    have : ∀ k, k ≤ 24 → ((20 ≤ ps_mt k ∧ ps_mt k ≤ 21) ↔ (k = 3 ∨ k = 4)) := by decide +kernel
    exact this _ h24
  rw [e1037, q1037_0, b1, show am_c 20 = nI 20 from rfl, show am_c 21 = nI 21 from rfl, m1001c (d + 37) _ (by omega) (by omega), am_bI_ret, am_ixN (by omega)]
  by_cases hc : (ps_hk T).1 = 3 ∨ (ps_hk T).1 = 4
  · rw [if_pos hc, decide_eq_true (hw.mpr hc), if_neg (show ¬ nI true.toNat = 0 by decide), q1037_20, a3]
    by_cases h16 : L.length < 16
    · have hbv : nI (ps_mt (ps_hk T).1) - am_c 20 = nI (!(decide ((ps_hk T).1 = 3))).toNat := by rcases hc with e | e <;> rw [e] <;> decide
      rw [if_pos h16, if_neg (show ¬ nI L.length = am_c 16 by rw [am_cN, am_eqN (by omega) (by omega)]; omega), q1037_35, a3, b1, hbv, show am_c 3 = nI 3 from rfl, pk_mul, am_ixN (by omega), am_gbI (by omega)]
      generalize hbb : decide ((ps_hk T).1 = 3) = bb
      generalize hs : ps_posM L L.length = s at *
      generalize hμa : am_up (am_up μ 61 (3 * L.length) (nI (!bb).toNat)) 56 21 (am_c 0) = μa
      have ca : ∀ K, K ≠ 56 → K ≠ 61 → μa K = μ K := fun K h1 h2 => by rw [← hμa, am_up_ne h1, am_up_ne h2]
      have ca56 : ∀ i, i ≠ 21 → μa 56 i = μ 56 i := fun i hi => by rw [← hμa, am_upI hi, am_upK (by omega)]
      have ca61 : ∀ i, μa 61 i = if i = 3 * L.length then nI (!bb).toNat else μ 61 i := fun i => by
        rw [← hμa, am_upK (by omega)]
        by_cases hi : i = 3 * L.length
        · rw [if_pos hi, hi, am_upS]
        · rw [if_neg hi, am_upI hi]
      have ga : ps_Ng tp tl μa s 0 T [] μa := ⟨fun _ _ _ => rfl, fun _ _ _ _ => rfl, by rw [← hμa, am_upS]; rfl, fun _ _ => rfl, fun j q hq => by simp at hq, by rw [ca56 12 (by omega)]; exact a4, a6, a7.mk (fun i h1 h2 => ca56 i (by omega))⟩
      have hMa : ps_Mt tp tl μa := hMμ.off (ca56 13 (by omega)) (ca 63 (by omega) (by omega))
      obtain ⟨t1, t2⟩ := a6.tail (by omega)
      have t24 := t1.hd.1
      obtain ⟨m1, s1, s2⟩ := v1026' (d + 30) hMa ga (by omega)
      have m11 : m1 56 11 = nI L.length := by rw [s2.2.1 11 (by omega) (by omega) (by omega), ca56 11 (by omega)]; exact a3
      have m12 : m1 56 12 = nI s := s2.2.2.2.2.2.1
      have k1 := s2.h.1
      rw [s1, am_bV_ret, m11, pk_mul, show nI (3 * L.length) + am_c 1 = nI (3 * L.length + 1) from nI_add _ 1, am_ixN (by omega), am_gbI (by omega), m12, am_upK (by omega), k1]
      have g1 := s2.up (K := 61) (i := 3 * L.length + 1) (x := nI s) (by omega) (by omega)
      generalize hm1 : am_up m1 61 (3 * L.length + 1) (nI s) = m1' at g1 ⊢
      have cb : ∀ K, K ≠ 56 → K ≠ 61 → K ≠ 62 → m1' K = μ K := fun K h1 h2 h3 => by rw [← hm1, am_up_ne h2, s2.1 K h1 h3, ca K h1 h2]
      have cb56 : ∀ i, i ≠ 12 → i < 14 ∨ 17 < i → i ≠ 21 → m1' 56 i = μ 56 i := fun i h1 h2 h3 => by rw [← hm1, am_upK (by omega), s2.2.1 i h1 h2 h3, ca56 i h3]
      have cb62 : ∀ i, i < 2 * s → m1' 62 i = μ 62 i := fun i hi => by rw [← hm1, am_upK (by omega), s2.2.2.2.1 i hi, ca 62 (by omega) (by omega)]
      have cb61 : ∀ i, m1' 61 i = if i = 3 * L.length + 1 then nI s else if i = 3 * L.length then nI (!bb).toNat else μ 61 i := fun i => by
        rw [← hm1]
        by_cases hi : i = 3 * L.length + 1
        · rw [if_pos hi, hi, am_upS]
        · rw [if_neg hi, am_upI hi, s2.1 61 (by omega) (by omega), ca61]
      have hMb : ps_Mt tp tl m1' := hMμ.off (cb56 13 (by omega) (by omega) (by omega)) (cb 63 (by omega) (by omega) (by omega))
      have tl' : ∀ (R : List ps_K) (c : ps_C) (m3 : am_Mem), c.length + R.length + 1 ≤ T.length → ps_Ng tp tl m1' s 0 R ([] ++ c) m3 →
          match (if (ps_hk R).1 = 15 then .inr (R.tail, c) else .inl (1, (ps_hk R).2.1) : ps_R) with
          | .inl e => ∃ μ', am_ev (am_call (d + 38)) 1037 100 [.ref 56] [] m3 = am_ret (some (.int (nI 0))) μ' ∧ ps_Hf μ0 e μ' ∧ μ' 56 11 = nI L.length
          | .inr q => ∃ μ', am_ev (am_call (d + 38)) 1037 100 [.ref 56] [] m3 = am_ret (some (.int (nI 1))) μ' ∧ ps_Hg tp tl μ0 q.1 (L ++ [(bb, q.2)]) (am_up μ' 56 11 (nI (L.length + 1))) ∧ μ' 56 11 = nI L.length := by
        intro R c m3 hlen h3
        have h3 : ps_Ng tp tl m1' s 0 R c m3 := h3
        obtain ⟨p1, p2, p3, p4, p5, p6, -⟩ := id h3
        have c11 : m3 56 11 = nI L.length := by rw [p2 11 (by omega) (by omega) (by omega), cb56 11 (by omega) (by omega) (by omega)]; exact a3
        have g4 := h3.up (K := 61) (i := 3 * L.length + 2) (x := nI (s + c.length)) (by omega) (by omega)
        rw [q1037_100, c11, show am_c 3 = nI 3 from rfl, pk_mul, show nI (3 * L.length) + am_c 2 = nI (3 * L.length + 2) from nI_add _ 2, am_ixN (by omega), am_gbI (by omega), p6]
        generalize hmb : am_up m3 61 (3 * L.length + 2) (nI (s + c.length)) = mb at g4 ⊢
        have cc : ∀ K, K ≠ 56 → K ≠ 61 → K ≠ 62 → mb K = μ0 K := fun K h1 h2 h3 => by
          rw [← hmb, am_up_ne h2, p1 K h1 h3, cb K h1 h2 h3]
          exact a1 K h1 h2 h3
        have cc56 : ∀ i, i ≠ 11 → i ≠ 12 → i < 14 ∨ 17 < i → i ≠ 21 → mb 56 i = μ0 56 i := fun i h0 h1 h2 h3 => by
          rw [← hmb, am_upK (by omega), p2 i h1 h2 h3, cb56 i h1 h2 h3]
          exact a2 i h0 h1 h2 h3
        have cc11 : mb 56 11 = nI L.length := by rw [← hmb, am_upK (by omega)]; exact c11
        have hMc : ps_Mt tp tl mb := hM.off (cc56 13 (by omega) (by omega) (by omega) (by omega)) (cc 63 (by omega) (by omega) (by omega))
        have w := v1028 (d + 29) hMc g4 (k := 15) (by decide) (by decide)
        rw [show am_c 159 = nI (ps_mt 15) from rfl]
        by_cases h15 : (ps_hk R).1 = 15
        · rw [if_pos h15] at w ⊢
          obtain ⟨m4, e1, e2⟩ := w
          have e2 : ps_Ng tp tl mb s 0 R.tail c m4 := by have e2 : ps_Ng tp tl mb s 0 R.tail (c ++ []) m4 := e2; rw [List.append_nil] at e2; exact e2
          obtain ⟨f1, f2, f3, f4, f5, f6, f7, f8⟩ := e2
          have n11 : m4 56 11 = nI L.length := by rw [f2 11 (by omega) (by omega) (by omega)]; exact cc11
          refine ⟨m4, by rw [e1, am_bI_ret, ps_gb01 (by omega)], ⟨fun K h1 h2 h3 => by rw [am_up_ne h1, f1 K h1 h3]; exact cc K h1 h2 h3, fun i h0 h1 h2 h3 => by rw [am_upI h0, f2 i h1 h2 h3]; exact cc56 i h0 h1 h2 h3, by rw [am_upS, List.length_append]; rfl, by rw [am_upI (by omega), List.length_append, List.length_singleton, ps_posM_last, hs]; exact f6, fun l q hq => ?_, f7, f8.mk (fun i h1 h2 => by rw [am_upI (by omega)])⟩, n11⟩
          have n61 : ∀ i, am_up m4 56 11 (nI (L.length + 1)) 61 i = if i = 3 * L.length + 2 then nI (s + c.length) else if i = 3 * L.length + 1 then nI s else if i = 3 * L.length then nI (!bb).toNat else μ 61 i := fun i => by
            rw [am_upK (by omega), f1 61 (by omega) (by omega), ← hmb]
            by_cases hi : i = 3 * L.length + 2
            · rw [if_pos hi, hi, am_upS]
            · rw [if_neg hi, am_upI hi, p1 61 (by omega) (by omega), cb61]
          have n62 : ∀ i, i < 2 * s → am_up m4 56 11 (nI (L.length + 1)) 62 i = μ 62 i := fun i hi => by rw [am_upK (by omega), f4 i hi, ← hmb, am_upK (by omega), p4 i hi, cb62 i hi]
          rcases ps_gapL hq with ⟨g1, g2⟩ | ⟨g1, g2⟩
          · obtain ⟨l1, l2, l3, l4⟩ := a5 l q g2
            have hle := ps_posM_le g2
            rw [hs] at hle
            rw [ps_posM_app (by omega), ps_posM_app (by omega)]
            refine ⟨by rw [n61, if_neg (by omega), if_neg (by omega), if_neg (by omega)]; exact l1, by rw [n61, if_neg (by omega), if_neg (by omega), if_neg (by omega)]; exact l2, by rw [n61, if_neg (by omega), if_neg (by omega), if_neg (by omega)]; exact l3, fun j cj hj => ?_⟩
            have hj' := (List.getElem?_eq_some_iff.mp hj).1
            rw [n62 _ (by omega), n62 _ (by omega)]
            exact l4 j cj hj
          · subst g1
            subst g2
            rw [ps_posM_app (Nat.le_refl _), ps_posM_last, hs]
            refine ⟨by rw [n61, if_neg (by omega), if_neg (by omega), if_pos rfl], by rw [n61, if_neg (by omega), if_pos rfl], by rw [n61, if_pos rfl], fun j cj hj => ?_⟩
            rw [am_upK (by omega), am_upK (by omega)]
            exact f5 j cj hj
        · rw [if_neg h15] at w ⊢
          obtain ⟨m4, e1, e2, e3, e4, e5⟩ := w
          refine ⟨m4, by rw [e1, am_bI_ret, ps_gb01 (by omega)], ⟨fun K h1 h2 h3 => by rw [e2 K h1 h3]; exact cc K h1 h2 h3, fun i h0 h1 h2 h3 => by rw [e3 i h1 h2 h3]; exact cc56 i h0 h1 (by omega) h3, e4, e5⟩, ?_⟩
          rw [e3 11 (by omega) (by omega) (by omega)]; exact cc11
      rw [ps_pL, ps_pB]
      by_cases h5 : (ps_hk T.tail).1 = 5
      · obtain ⟨u1, u2⟩ := t1.tail (by omega)
        obtain ⟨m2, s3, s4⟩ := v1026' (d + 30) hMb g1 (by omega)
        have x0 := v1036 (tp := tp) (tl := tl) (μ0 := m1') (s0 := s) hMb 8 (d + 36) (by omega) (by omega)
        have x1 := v1035 (d + 28) hMb (m := 4 + 2 * 8) (fun T hT => ps_pX_ok 8 hT) x0
        have x2 := v1034 (d + 29) hMb (m := 4 + 2 * 8 + 1) (fun T hT => ps_lp_ok (fun T hT => ps_pX_ok 8 hT) rfl (fun j => (ps_opA_ok j).1) (fun j => (ps_opA_ok j).2) hT) x1
        have x3 := x2 [] T.tail.tail m2 s4 (by rw [List.length_nil]; omega)
        have hA : ps_lp (ps_lp (ps_pX 8) ps_opA) ps_opO T.tail.tail = ps_pA 8 T.tail.tail := rfl
        rw [hA] at x3
        have ok := ps_pA_ok 8 u1
        rw [if_pos h5, if_pos (show nI (ps_mt (ps_hk T.tail).1) = nI 3 by rw [h5]; rfl), s3, am_bV_ret]
        cases hr : ps_pA 8 T.tail.tail with
        | inl e =>
          rw [hr] at x3
          obtain ⟨m3, e1, e2, e3, e4, e5⟩ := x3
          rw [e1, am_bI_ret, if_pos (show nI 0 = 0 from rfl)]
          refine ⟨m3, rfl, ⟨fun K h1 h2 h3 => by rw [e2 K h1 h3, cb K h1 h2 h3]; exact a1 K h1 h2 h3, fun i h0 h1 h2 h3 => by rw [e3 i h1 h2 h3, cb56 i h1 (by omega) h3]; exact a2 i h0 h1 (by omega) h3, e4, e5⟩, ?_⟩
          rw [e3 11 (by omega) (by omega) (by omega), cb56 11 (by omega) (by omega) (by omega)]; exact a3
        | inr q =>
          obtain ⟨v1, v2, v3⟩ := ok.inr3 (R := q.1) (c := q.2) hr
          rw [hr] at x3
          obtain ⟨m3, e1, e2⟩ := x3
          rw [e1, am_bI_ret, if_neg (show ¬ nI 1 = 0 by decide)]
          exact tl' q.1 q.2 m3 (by omega) e2
      · rw [if_neg h5, if_neg (show ¬ nI (ps_mt (ps_hk T.tail).1) = nI 3 from ps_mtn 5 t24 (by omega) rfl h5)]
        exact tl' T.tail [] m1' (by rw [List.length_nil]; omega) g1
    · rw [if_neg h16, if_pos (show nI L.length = am_c 16 by rw [show L.length = 16 by omega]; rfl)]
      exact fail 3
  · rw [if_neg hc, decide_eq_false (fun z => hc (hw.mp z)), if_pos (show nI false.toNat = 0 by decide)]
    exact fail 1
end ParP
