/-! the law's text: the model's reader, small methods, products, sums -/
theorem ps_mt_inj : ∀ k, k ≤ 24 → ∀ k', k' ≤ 24 → (ps_mt k = ps_mt k') → k = k' := by decide +kernel
theorem ps_mt_le : ∀ k, k ≤ 24 → ps_mt k ≤ 162 := by decide +kernel
theorem ps_mtq {k : Nat} (k' : Nat) {z : Int32} (hk : k ≤ 24) (hk' : k' ≤ 24) (hz : z = nI (ps_mt k')) : (nI (ps_mt k) = z) = (k = k') := by
  have h1 := ps_mt_le k hk
  have h2 := ps_mt_le k' hk'
  rw [hz, am_eqN (by omega) (by omega)]
  exact propext ⟨ps_mt_inj k hk k' hk', fun e => by rw [e]⟩
theorem ps_mtn {k : Nat} (k' : Nat) {z : Int32} (hk : k ≤ 24) (hk' : k' ≤ 24) (hz : z = nI (ps_mt k')) (h : k ≠ k') : ¬ nI (ps_mt k) = z := fun e => h (by rw [ps_mtq k' hk hk' hz] at e; exact e)
def ps_Ng (tp : Nat → Nat) (tl : Nat) (μ0 : am_Mem) (s0 o : Nat) (T : List ps_K) (cs : ps_C) (μ : am_Mem) : Prop := (∀ K, K ≠ 56 → K ≠ 62 → μ K = μ0 K) ∧ (∀ i, i ≠ 12 → i < 14 ∨ 17 < i → i ≠ 21 → μ 56 i = μ0 56 i) ∧ μ 56 21 = nI o ∧ (∀ i, i < 2 * s0 → μ 62 i = μ0 62 i) ∧ (∀ j q, cs[j]? = some q → μ 62 (2 * (s0 + j)) = nI q.1 ∧ (q.1 = 0 ∨ q.1 = 16 → μ 62 (2 * (s0 + j) + 1) = nI q.2)) ∧ μ 56 12 = nI (s0 + cs.length) ∧ ps_ge T ∧ ps_Mn tp tl T μ
def ps_Nf (μ0 : am_Mem) (e : Nat × Nat) (μ : am_Mem) : Prop := (∀ K, K ≠ 56 → K ≠ 62 → μ K = μ0 K) ∧ (∀ i, i ≠ 12 → i < 14 ∨ 19 < i → i ≠ 21 → μ 56 i = μ0 56 i) ∧ μ 56 18 = nI e.1 ∧ μ 56 19 = nI e.2
def ps_Od (tp : Nat → Nat) (tl : Nat) (μ0 : am_Mem) (s0 o : Nat) (pre : ps_C) (r : ps_R) (X : am_R) : Prop := match r with
  | .inl e => ∃ μ', X = am_ret (some (.int (nI 0))) μ' ∧ ps_Nf μ0 e μ'
  | .inr q => ∃ μ', X = am_ret (some (.int (nI 1))) μ' ∧ ps_Ng tp tl μ0 s0 o q.1 (pre ++ q.2) μ'
section ParM
variable {tp : Nat → Nat} {tl : Nat} {μ0 : am_Mem} {s0 o : Nat}
theorem ps_Ng.h {T : List ps_K} {cs : ps_C} {μ : am_Mem} (h : ps_Ng tp tl μ0 s0 o T cs μ) : μ 56 15 = nI (ps_mt (ps_hk T).1) ∧ μ 56 16 = nI (ps_hk T).2.1 ∧ ((ps_hk T).1 = 2 → μ 56 17 = nI (ps_hk T).2.2) ∧ ((ps_hk T).1 = 0 ∨ ∃ p, p ≤ tl ∧ μ 56 14 = nI p ∧ T.tail = ps_tks tp tl (tl - p) p) := by
  obtain ⟨-, -, -, -, -, -, -, h⟩ := h
  cases T with
  | nil => exact h.elim
  | cons q R => exact h
theorem ps_Ng.ge {T : List ps_K} {cs : ps_C} {μ : am_Mem} (h : ps_Ng tp tl μ0 s0 o T cs μ) : ps_ge T := h.2.2.2.2.2.2.1
theorem ps_Mn.mk {T : List ps_K} {μ μ' : am_Mem} (h : ps_Mn tp tl T μ) (e : ∀ i, 14 ≤ i → i ≤ 17 → μ' 56 i = μ 56 i) : ps_Mn tp tl T μ' := by
  cases T with
  | nil => exact h
  | cons q R =>
    obtain ⟨h1, h2, h3, h4⟩ := h
    refine ⟨by rw [e 15 (by omega) (by omega)]; exact h1, by rw [e 16 (by omega) (by omega)]; exact h2, fun hq => by rw [e 17 (by omega) (by omega)]; exact h3 hq, ?_⟩
    rw [e 14 (by omega) (by omega)]
    exact h4
theorem ps_Ng.Mt {T : List ps_K} {cs : ps_C} {μ : am_Mem} (h : ps_Ng tp tl μ0 s0 o T cs μ) (hM : ps_Mt tp tl μ0) : ps_Mt tp tl μ := hM.off (h.2.1 13 (by omega) (by omega) (by omega)) (h.1 63 (by omega) (by omega))
theorem v1026' (d : Nat) {T : List ps_K} {cs : ps_C} {μ : am_Mem} (hM : ps_Mt tp tl μ0) (h : ps_Ng tp tl μ0 s0 o T cs μ) (h0 : (ps_hk T).1 ≠ 0) : ∃ μ', am_call (d + 8) 1026 [.ref 56] μ = am_ret none μ' ∧ ps_Ng tp tl μ0 s0 o T.tail cs μ' := by
  obtain ⟨b1, b2, b3, b4⟩ := h.h
  have hMμ := h.Mt hM
  obtain ⟨t1, t2⟩ := h.ge.tail h0
  obtain ⟨a1, a2, a3, a4, a5, a6, a7, a8⟩ := h
  rcases b4 with b4 | ⟨p, p1, p2, p3⟩
  · exact absurd b4 h0
  · obtain ⟨μ', s1, s2, s3⟩ := v1026 d (tl - p) p .null .null μ hMμ (by omega) p2
    rw [e1026, s1]
    refine ⟨μ', rfl, fun K h1 h2 => by rw [s2.1 K h1]; exact a1 K h1 h2, fun i h1 h2 h3 => by rw [s2.2 i (by omega) (by omega) (by omega) (by omega)]; exact a2 i h1 h2 h3, by rw [s2.2 21 (by omega) (by omega) (by omega) (by omega)]; exact a3, fun i hi => by rw [s2.1 62 (by omega)]; exact a4 i hi, fun j q hq => by rw [s2.1 62 (by omega)]; exact a5 j q hq, by rw [s2.2 12 (by omega) (by omega) (by omega) (by omega)]; exact a6, t1, ?_⟩
    rw [p3]
    exact s3
theorem v1027 (d : Nat) {T : List ps_K} {cs : ps_C} {μ : am_Mem} (h : ps_Ng tp tl μ0 s0 o T cs μ) (k : Nat) : ∃ μ', am_call (d + 1) 1027 [.ref 56, .int (nI k)] μ = am_ret (some (.int (nI 0))) μ' ∧ ps_Nf μ0 (k, (ps_hk T).2.1) μ' := by
  obtain ⟨b1, b2, b3, b4⟩ := h.h
  obtain ⟨a1, a2, a3, a4, a5, a6, a7, a8⟩ := h
  rw [e1027, q1027_0, am_upI (by omega), b2]
  exact ⟨_, rfl, fun K h1 h2 => by rw [am_up_ne h1, am_up_ne h1]; exact a1 K h1 h2, fun i h1 h2 h3 => by rw [am_upI (by omega), am_upI (by omega)]; exact a2 i h1 (by omega) h3, by rw [am_upI (by omega), am_upS], by rw [am_upS]⟩
theorem v1027g (d : Nat) {T : List ps_K} {cs pre : ps_C} {μ : am_Mem} (h : ps_Ng tp tl μ0 s0 o T cs μ) (k : Nat) (o' : Nat) : ps_Od tp tl μ0 s0 o' pre (.inl (k, (ps_hk T).2.1)) (am_bI (am_call (d + 1) 1027 [.ref 56, .int (nI k)] μ) (fun r1 m1 => am_gb (Nat.blt (am_ix r1) 2) (am_ret (some (.int r1)) m1))) := by
  obtain ⟨μ', e1, e2⟩ := v1027 d h k
  exact ⟨μ', by rw [e1, am_bI_ret, ps_gb01 (by omega)], e2⟩
theorem v1029 (d : Nat) {T : List ps_K} {cs : ps_C} {μ : am_Mem} (h : ps_Ng tp tl μ0 s0 o T cs μ) (hb : s0 + cs.length ≤ 400) {x2 : Int32} (k v : Nat) (hv : k = 0 ∨ k = 16 → x2 = nI v) : ∃ μ', am_call (d + 1) 1029 [.ref 56, .int (nI k), .int x2] μ = am_ret none μ' ∧ ps_Ng tp tl μ0 s0 o T (cs ++ [(k, v)]) μ' := by
  obtain ⟨a1, a2, a3, a4, a5, a6, a7, a8⟩ := h
  have e2 : am_c 2 * μ 56 12 = nI (2 * (s0 + cs.length)) := by rw [a6, am_cN, pk_mul]
  have e3 : am_up μ 62 (2 * (s0 + cs.length)) (nI k) 56 12 = μ 56 12 := am_upK (by omega)
  have e4 : nI (2 * (s0 + cs.length)) + am_c 1 = nI (2 * (s0 + cs.length) + 1) := nI_add _ 1
  rw [e1029, q1029_0, e2, am_ixN (by omega), am_gbI (by omega), e3, e2, e4, am_ixN (by omega), am_gbI (by omega), am_upK (by omega), e3, a6, show nI (s0 + cs.length) + am_c 1 = nI (s0 + cs.length + 1) from nI_add _ 1]
  refine ⟨_, rfl, fun K h1 h2 => by rw [am_up_ne h1, am_up_ne h2, am_up_ne h2]; exact a1 K h1 h2, fun i h1 h2 h3 => by rw [am_upI h1, am_upK (by omega), am_upK (by omega)]; exact a2 i h1 h2 h3, by rw [am_upI (by omega), am_upK (by omega), am_upK (by omega)]; exact a3, fun i hi => by rw [am_upK (by omega), am_upI (by omega), am_upI (by omega)]; exact a4 i hi, fun j q hq => ?_, by rw [am_upS, List.length_append]; rfl, a7, a8.mk (fun i h1 h2 => by rw [am_upI (by omega), am_upK (by omega), am_upK (by omega)])⟩
  rcases ps_gapL hq with ⟨g1, g2⟩ | ⟨g1, g2⟩
  · refine ⟨?_, fun hq' => ?_⟩
    · rw [am_upK (by omega), am_upI (by omega), am_upI (by omega)]
      exact (a5 j q g2).1
    · rw [am_upK (by omega), am_upI (by omega), am_upI (by omega)]
      exact (a5 j q g2).2 hq'
  · subst g1
    subst g2
    refine ⟨?_, fun hq' => ?_⟩
    · rw [am_upK (by omega), am_upI (by omega), am_upS]
    · rw [am_upK (by omega), am_upS]
      exact hv hq'
theorem v1028 (d : Nat) {T : List ps_K} {cs : ps_C} {μ : am_Mem} (hM : ps_Mt tp tl μ0) (h : ps_Ng tp tl μ0 s0 o T cs μ) {k : Nat} (hk0 : k ≠ 0) (hk24 : k ≤ 24) : ps_Od tp tl μ0 s0 o cs (if (ps_hk T).1 = k then .inr (T.tail, []) else .inl (1, (ps_hk T).2.1)) (am_call (d + 9) 1028 [.ref 56, .int (nI (ps_mt k))] μ) := by
  have b1 := h.h.1
  have h24 := h.ge.hd.1
  rw [e1028, q1028_0, b1]
  by_cases hc : (ps_hk T).1 = k
  · obtain ⟨μ1, s1, s2⟩ := v1026' d hM h (by omega)
    rw [if_pos hc, if_pos (by rw [ps_mtq k h24 hk24 rfl]; exact hc), q1028_14, s1, am_bV_ret]
    exact ⟨μ1, rfl, by rw [List.append_nil]; exact s2⟩
  · rw [if_neg hc, if_neg (by rw [ps_mtq k h24 hk24 rfl]; exact hc)]
    exact v1027g (d + 7) h 1 o
/-- what a reader of the model does -/
def ps_Sq (tp : Nat → Nat) (tl : Nat) (μ0 : am_Mem) (s0 o : Nat) (B : List ps_K → ps_R) (X : am_Mem → am_R) : Prop := ∀ (pre : ps_C) (T : List ps_K) (μ : am_Mem), ps_Ng tp tl μ0 s0 o T pre μ → s0 + pre.length + T.length ≤ 401 → ps_Od tp tl μ0 s0 o pre (B T) (X μ)
theorem ps_Od.bnd {pre pre' : ps_C} {r : ps_R} {X : am_R} {o' : Nat} {f : List ps_K → ps_C → ps_R} {G : Int32 → am_Mem → am_R} (h : ps_Od tp tl μ0 s0 o pre r X) (h0 : ∀ μ', G (nI 0) μ' = am_ret (some (.int (nI 0))) μ') (h1 : ∀ R c μ', r = .inr (R, c) → ps_Ng tp tl μ0 s0 o R (pre ++ c) μ' → ps_Od tp tl μ0 s0 o' pre' (f R c) (G (nI 1) μ')) : ps_Od tp tl μ0 s0 o' pre' (ps_bnd r f) (am_bI X G) := by
  cases r with
  | inl e =>
    obtain ⟨μ', e1, e2⟩ := h
    exact ⟨μ', by rw [e1, am_bI_ret, h0], e2⟩
  | inr q =>
    obtain ⟨μ', e1, e2⟩ := h
    rw [e1, am_bI_ret]
    exact h1 q.1 q.2 μ' rfl e2
theorem ps_gd'.inr3 {T R : List ps_K} {c : ps_C} {b : Bool} {m : Nat} {r : ps_R} (h : ps_gd' T b m r) (hr : r = .inr (R, c)) : ps_ge R ∧ c.length + R.length ≤ T.length ∧ R.length < T.length := by
  rw [hr] at h
  exact ⟨h.1, h.2.2.1, h.2.2.2.1⟩
theorem v1033 (d : Nat) (hM : ps_Mt tp tl μ0) : ps_Sq tp tl μ0 s0 o ps_pU (am_call (d + 9) 1033 [.ref 56]) := by
  intro pre T μ h hb
  obtain ⟨b1, b2, b3, b4⟩ := h.h
  have h24 := h.ge.hd.1
  have hl := h.ge.hd.2.2
  have h162 := ps_mt_le _ h24
  have ok : ∀ (k v : Nat) (x2 : Int32) (x1 : Int32), (ps_hk T).1 ≠ 0 → (k = 0 ∨ k = 16 → μ 56 17 = nI v) → ∃ μ', am_ev (am_call (d + 8)) 1033 46 [.ref 56, .int x1] [.int (nI k), .ref 56] μ = am_ret (some (.int (nI 1))) μ' ∧ ps_Ng tp tl μ0 s0 o T.tail (pre ++ [(k, v)]) μ' := by
    intro k v x2 x1 hne hv
    obtain ⟨μ1, e1, e2⟩ := v1029 (d + 7) h (by omega) k v hv
    obtain ⟨μ2, e3, e4⟩ := v1026' d hM e2 hne
    rw [q1033_46, e1, am_bV_ret, e3, am_bV_ret]
    exact ⟨μ2, rfl, e4⟩
  rw [e1033, q1033_0, b1, show am_c 41 = nI 41 from rfl, show am_c 46 = nI 46 from rfl, m1001c (d + 7) _ (by omega) (by omega), am_bI_ret, b1, am_ixN (by omega)]
  unfold ps_pU
  by_cases h2 : (ps_hk T).1 = 2
  · rw [if_pos h2, if_pos (show nI (ps_mt (ps_hk T).1) = am_c 2 by rw [h2]; rfl), q1033_30, if_pos (by rw [h2]; decide), q1033_45]
    exact ok 0 (ps_hk T).2.2 0 _ (by omega) (fun _ => b3 h2)
  · rw [if_neg h2, if_neg (show ¬ nI (ps_mt (ps_hk T).1) = am_c 2 from ps_mtn 2 h24 (by omega) rfl h2)]
    have hw : (41 ≤ ps_mt (ps_hk T).1 ∧ ps_mt (ps_hk T).1 ≤ 46) ↔ (9 ≤ (ps_hk T).1 ∧ (ps_hk T).1 ≤ 14) := by
      have : ∀ k, k ≤ 24 → ((41 ≤ ps_mt k ∧ ps_mt k ≤ 46) ↔ (9 ≤ k ∧ k ≤ 14)) := by decide +kernel
      exact this _ h24
    by_cases hn : 9 ≤ (ps_hk T).1 ∧ (ps_hk T).1 ≤ 14
    · have hv : ps_mt (ps_hk T).1 = (ps_hk T).1 - 8 + 40 := by
        have : ∀ k, k ≤ 24 → 9 ≤ k ∧ k ≤ 14 → ps_mt k = k - 8 + 40 := by decide +kernel
        exact this _ h24 hn
      rw [if_pos hn, decide_eq_true (hw.mpr hn), if_neg (show ¬ nI true.toNat = 0 by decide), q1033_30, if_neg (show ¬ nI true.toNat = 0 by decide), b1, hv, show am_c 40 = nI 40 from rfl, pk_sub (by omega), Nat.add_sub_cancel]
      exact ok ((ps_hk T).1 - 8) 0 0 _ (by omega) (fun e => by omega)
    · rw [if_neg hn, decide_eq_false (fun z => hn (hw.mp z)), if_pos (show nI false.toNat = 0 by decide)]
      exact v1027g (d + 7) h 1 o
/-- what behind a sign of a product is read -/
theorem v1032 (d : Nat) (hM : ps_Mt tp tl μ0) : ps_Sq tp tl μ0 s0 o ps_pP (am_call (d + 10) 1032 [.ref 56]) := by
  intro pre T μ h hb
  have lp : ∀ N (T : List ps_K), T.length ≤ N → ∀ (a : ps_C) (x1 x2 : Value) (μ : am_Mem), ps_Ng tp tl μ0 s0 o T (pre ++ a) μ → s0 + pre.length + a.length + T.length ≤ 401 → ps_Od tp tl μ0 s0 o pre (ps_pPl T.length T a) (am_ev (am_call (d + 9)) 1032 9 [.ref 56, x1, x2] [] μ) := by
    intro N
    induction N with
    | zero =>
      intro T hT a x1 x2 μ h
      have := h.ge.hd.2.2
      omega
    | succ N ih =>
      intro T hT a x1 x2 μ h hb
      obtain ⟨b1, b2, b3, b4⟩ := h.h
      have hge := h.ge
      have h24 := hge.hd.1
      have hl := hge.hd.2.2
      obtain ⟨n, hn⟩ : ∃ n, T.length = n + 1 := ⟨T.length - 1, by omega⟩
      rw [q1032_9, b1, hn, ps_pPl]
      by_cases h18 : (ps_hk T).1 = 18
      · obtain ⟨t1, t2⟩ := hge.tail (by omega)
        obtain ⟨μ1, s1, s2⟩ := v1026' (d + 1) hM h (by omega)
        rw [if_pos (show (ps_hk T).1 = 18 ∨ (ps_hk T).1 = 19 from Or.inl h18), if_pos (show nI (ps_mt (ps_hk T).1) = am_c 142 by rw [h18]; rfl), q1032_29, b1, if_neg (show ¬ nI (ps_mt (ps_hk T).1) = am_c 147 by rw [h18]; decide), q1032_43, q1032_44, s1, am_bV_ret, if_pos (show am_c 0 = 0 from rfl), q1032_96, ps_pF, if_pos h18, ps_bnd_a]
        refine (v1033 d hM (pre ++ a) T.tail μ1 s2 (by rw [List.length_append]; omega)).bnd (fun μ' => rfl) (fun R c μ2 hr hP => ?_)
        obtain ⟨g1, g2, g3⟩ := (ps_pU_ok t1).inr3 hr
        have g4 := g1.hd.2.2
        obtain ⟨μ3, l1, l2⟩ := v1029 (d + 8) hP (by rw [List.length_append, List.length_append]; omega) (x2 := am_c 0) 15 0 (fun e => by omega)
        show ps_Od tp tl μ0 s0 o pre (ps_pPl n R (a ++ (c ++ [(15, 0)]))) (if nI 1 = 0 then _ else am_ev (am_call (d + 9)) 1032 105 _ [] μ2)
        rw [if_neg (show ¬ nI 1 = 0 by decide), q1032_105, show am_c 15 = nI 15 from rfl, l1, am_bV_ret, q1032_112, ps_pPl_fuel n R.length R _ g1 (by omega) (Nat.le_refl _)]
        exact ih R (by omega) (a ++ (c ++ [(15, 0)])) _ _ μ3 (by rw [← List.append_assoc, ← List.append_assoc]; exact l2) (by rw [List.length_append, List.length_append, List.length_singleton]; omega)
      · by_cases h19 : (ps_hk T).1 = 19
        · obtain ⟨t1, t2⟩ := hge.tail (by omega)
          obtain ⟨μ1, s1, s2⟩ := v1026' (d + 1) hM h (by omega)
          obtain ⟨u1, u2, u3, u4⟩ := s2.h
          have t24 := t1.hd.1
          rw [if_pos (show (ps_hk T).1 = 18 ∨ (ps_hk T).1 = 19 from Or.inr h19), if_neg (show ¬ nI (ps_mt (ps_hk T).1) = am_c 142 from ps_mtn 18 h24 (by omega) rfl h18), if_pos (show nI (ps_mt (ps_hk T).1) = am_c 147 by rw [h19]; rfl), q1032_29, b1, if_pos (show nI (ps_mt (ps_hk T).1) = am_c 147 by rw [h19]; rfl), q1032_44, s1, am_bV_ret, if_neg (show ¬ am_c 1 = 0 by decide), u1, ps_pF, if_neg h18]
          by_cases h2 : (ps_hk T.tail).1 = 2
          · have n17 := u3 h2
            have h99 := t1.hd.2.1 h2
            rw [if_pos h2, if_pos (show nI (ps_mt (ps_hk T.tail).1) = am_c 2 by rw [h2]; rfl), n17, q1032_72]
            by_cases hz : (ps_hk T.tail).2.2 = 0
            · rw [if_pos hz, if_pos (show nI (ps_hk T.tail).2.2 = 0 by rw [hz]; rfl)]
              exact v1027g (d + 8) s2 2 o
            · obtain ⟨v1, v2⟩ := t1.tail (by omega)
              have v3 := v1.hd.2.2
              obtain ⟨μ2, s3, s4⟩ := v1026' (d + 1) hM s2 (by omega)
              obtain ⟨μ3, l1, l2⟩ := v1029 (d + 8) s4 (by rw [List.length_append]; omega) (x2 := nI (ps_hk T.tail).2.2) 16 (ps_hk T.tail).2.2 (fun _ => rfl)
              rw [if_neg hz, if_neg (show ¬ nI (ps_hk T.tail).2.2 = 0 by rw [am_eq0 (by omega)]; exact hz), q1032_82, s3, am_bV_ret, show am_c 16 = nI 16 from rfl, l1, am_bV_ret, q1032_112, ps_bnd_r, ps_pPl_fuel n T.tail.tail.length T.tail.tail _ v1 (by omega) (Nat.le_refl _)]
              exact ih T.tail.tail (by omega) (a ++ [(16, (ps_hk T.tail).2.2)]) _ _ μ3 (by rw [← List.append_assoc]; exact l2) (by rw [List.length_append, List.length_singleton]; omega)
          · rw [if_neg h2, if_neg (show ¬ nI (ps_mt (ps_hk T.tail).1) = am_c 2 from ps_mtn 2 t24 (by omega) rfl h2)]
            exact v1027g (d + 8) s2 1 o
        · rw [if_neg (show ¬ ((ps_hk T).1 = 18 ∨ (ps_hk T).1 = 19) by omega), if_neg (show ¬ nI (ps_mt (ps_hk T).1) = am_c 142 from ps_mtn 18 h24 (by omega) rfl h18), if_neg (show ¬ nI (ps_mt (ps_hk T).1) = am_c 147 from ps_mtn 19 h24 (by omega) rfl h19), q1032_115]
          exact ⟨μ, rfl, h⟩
  rw [e1032, q1032_0, ps_pP]
  refine (v1033 d hM pre T μ h hb).bnd (fun μ' => rfl) (fun R c μ2 hr hP => ?_)
  obtain ⟨g1, g2, g3⟩ := (ps_pU_ok h.ge).inr3 hr
  show ps_Od tp tl μ0 s0 o pre (ps_pPl R.length R c) (if nI 1 = 0 then _ else am_ev (am_call (d + 9)) 1032 9 _ [] μ2)
  rw [if_neg (show ¬ nI 1 = 0 by decide)]
  exact lp R.length R (Nat.le_refl _) c _ _ μ2 hP (by omega)
/-- the model's loops over signs of one kind -/
theorem v_lp (D : Nat) (hM : ps_Mt tp tl μ0) {m : Nat} {b : Bool} {op : Nat → Nat} {B : List ps_K → ps_R} {X : am_Mem → am_R} {F : Value → am_Mem → am_R} (op0 : op 0 = 0) (opn : ∀ k, op k ≠ 0 → op k ≠ 16) (hB : ∀ T, ps_ge T → ps_gd' T b m (B T)) (hX : ps_Sq tp tl μ0 s0 o B X) (h0 : ∀ (x : Value) (k : Nat) (μ : am_Mem), k ≤ 24 → μ 56 15 = nI (ps_mt k) → op k = 0 → F x μ = am_ret (some (.int (am_c 1))) μ) (h1 : ∀ (x : Value) (k : Nat) (μ : am_Mem), k ≤ 24 → μ 56 15 = nI (ps_mt k) → op k ≠ 0 → ∃ x', F x μ = am_bV (am_call (D + 8) 1026 [.ref 56] μ) (fun m1 => am_bI (X m1) (fun r2 m2 => if r2 = 0 then am_ret (some (.int (am_c 0))) m2 else am_bV (am_call (D + 8) 1029 [.ref 56, .int (nI (op k)), .int (am_c 0)] m2) (fun m3 => F x' m3)))) (x0 : Value) : ps_Sq tp tl μ0 s0 o (ps_lp B op) (fun μ => am_bI (X μ) (fun r1 m1 => if r1 = 0 then am_ret (some (.int (am_c 0))) m1 else F x0 m1)) := by
  intro pre T μ h hb
  have lp : ∀ N (T : List ps_K), T.length ≤ N → ∀ (a : ps_C) (x : Value) (μ : am_Mem), ps_Ng tp tl μ0 s0 o T (pre ++ a) μ → s0 + pre.length + a.length + T.length ≤ 401 → ps_Od tp tl μ0 s0 o pre (ps_lpl B op T.length T a) (F x μ) := by
    intro N
    induction N with
    | zero =>
      intro T hT a x μ h
      have := h.ge.hd.2.2
      omega
    | succ N ih =>
      intro T hT a x μ h hb
      have hge := h.ge
      have h24 := hge.hd.1
      have hl := hge.hd.2.2
      obtain ⟨n, hn⟩ : ∃ n, T.length = n + 1 := ⟨T.length - 1, by omega⟩
      rw [hn, ps_lpl]
      by_cases hc : op (ps_hk T).1 = 0
      · rw [if_pos hc, h0 x _ μ h24 h.h.1 hc]
        exact ⟨μ, rfl, h⟩
      · have hz : (ps_hk T).1 ≠ 0 := fun e => hc (by rw [e]; exact op0)
        obtain ⟨t1, t2⟩ := hge.tail hz
        obtain ⟨x', hx'⟩ := h1 x _ μ h24 h.h.1 hc
        obtain ⟨μ1, s1, s2⟩ := v1026' D hM h hz
        rw [if_neg hc, hx', s1, am_bV_ret]
        refine (hX (pre ++ a) T.tail μ1 s2 (by rw [List.length_append]; omega)).bnd (fun μ' => rfl) (fun R c μ2 hr hP => ?_)
        obtain ⟨g1, g2, g3⟩ := (hB _ t1).inr3 hr
        have g4 := g1.hd.2.2
        obtain ⟨μ3, l1, l2⟩ := v1029 (D + 7) hP (by rw [List.length_append, List.length_append]; omega) (x2 := am_c 0) (op (ps_hk T).1) 0 (fun e => by rcases e with e | e; exact absurd e hc; exact absurd e (opn _ hc))
        rw [if_neg (show ¬ nI 1 = 0 by decide), l1, am_bV_ret, ps_lpl_fuel hB op0 n R.length R _ g1 (by omega) (Nat.le_refl _)]
        exact ih R (by omega) (a ++ c ++ [(op (ps_hk T).1, 0)]) _ μ3 (by rw [← List.append_assoc, ← List.append_assoc]; exact l2) (by rw [List.length_append, List.length_append, List.length_singleton]; omega)
  rw [ps_lp]
  refine (hX pre T μ h hb).bnd (fun μ' => rfl) (fun R c μ2 hr hP => ?_)
  obtain ⟨g1, g2, g3⟩ := (hB _ h.ge).inr3 hr
  rw [if_neg (show ¬ nI 1 = 0 by decide)]
  exact lp R.length R (Nat.le_refl _) c _ μ2 hP (by omega)
theorem v1031 (d : Nat) (hM : ps_Mt tp tl μ0) : ps_Sq tp tl μ0 s0 o ps_pS (am_call (d + 11) 1031 [.ref 56]) := by
  have e : am_call (d + 11) 1031 [.ref 56] = fun μ => am_bI (am_call (d + 10) 1032 [.ref 56] μ) (fun r1 m1 => if r1 = 0 then am_ret (some (.int (am_c 0))) m1 else am_ev (am_call (d + 10)) 1031 9 [.ref 56, .null] [] m1) := by
    funext μ
    rw [e1031, q1031_0]
  rw [e]
  refine v_lp (d + 2) hM (F := fun x μ => am_ev (am_call (d + 10)) 1031 9 [.ref 56, x] [] μ) (op := ps_opS) rfl (fun k hk => ?_) (fun T hT => ps_pP_ok hT) (v1032 d hM) (fun x k μ h24 b1 hk => ?_) (fun x k μ h24 b1 hk => ?_) .null
  · unfold ps_opS at hk ⊢
    split
    · decide
    · split <;> decide
  · have n16 : k ≠ 16 := fun e => by rw [e] at hk; exact absurd hk (by decide)
    have n17 : k ≠ 17 := fun e => by rw [e] at hk; exact absurd hk (by decide)
    show am_ev (am_call (d + 10)) 1031 9 [.ref 56, x] [] μ = _
    rw [q1031_9, b1, if_neg (show ¬ nI (ps_mt k) = am_c 143 from ps_mtn 16 h24 (by omega) rfl n16), if_neg (show ¬ nI (ps_mt k) = am_c 145 from ps_mtn 17 h24 (by omega) rfl n17), q1031_69]
  · show ∃ x', am_ev (am_call (d + 10)) 1031 9 [.ref 56, x] [] μ = _
    by_cases h16 : k = 16
    · subst h16
      refine ⟨.int (nI 13), ?_⟩
      rw [q1031_9, b1, if_pos (show nI (ps_mt 16) = am_c 143 from rfl), q1031_29, b1, if_pos (show nI (ps_mt 16) = am_c 143 from rfl), q1031_46]
      simp only [q1031_60]
      rfl
    · have h17 : k = 17 := by
        unfold ps_opS at hk
        rw [if_neg h16] at hk
        by_cases h17 : k = 17
        · exact h17
        · rw [if_neg h17] at hk; exact absurd rfl hk
      subst h17
      refine ⟨.int (nI 14), ?_⟩
      rw [q1031_9, b1, if_neg (show ¬ nI (ps_mt 17) = am_c 143 by decide), if_pos (show nI (ps_mt 17) = am_c 145 from rfl), q1031_29, b1, if_neg (show ¬ nI (ps_mt 17) = am_c 143 by decide), q1031_44, q1031_46]
      simp only [q1031_60]
      rfl
end ParM
