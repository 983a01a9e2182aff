/-! the law's text: the model's reader, conditions, lines, the law -/
section ParN
variable {tp : Nat → Nat} {tl : Nat} {μ0 : am_Mem} {s0 o : Nat}
theorem ps_Ng.opn {T : List ps_K} {cs : ps_C} {μ : am_Mem} (h : ps_Ng tp tl μ0 s0 o T cs μ) (o' : Nat) : ps_Ng tp tl μ0 s0 o' T cs (am_up μ 56 21 (nI o')) := by
  obtain ⟨a1, a2, a3, a4, a5, a6, a7, a8⟩ := h
  exact ⟨fun K h1 h2 => by rw [am_up_ne h1]; exact a1 K h1 h2, fun i h1 h2 h3 => by rw [am_upI h3]; exact a2 i h1 h2 h3, by rw [am_upS], fun i hi => by rw [am_upK (by omega)]; exact a4 i hi, fun j q hq => by rw [am_upK (by omega), am_upK (by omega)]; exact a5 j q hq, by rw [am_upI (by omega)]; exact a6, a7, a8.mk (fun i h1 h2 => by rw [am_upI (by omega)])⟩
theorem v1030 (d : Nat) {T : List ps_K} {cs : ps_C} {μ : am_Mem} (hM : ps_Mt tp tl μ0) (h : ps_Ng tp tl μ0 s0 o T cs μ) (ho : o ≤ 8) (h0 : (ps_hk T).1 ≠ 0) : if o = 8 then (∃ μ', am_call (d + 9) 1030 [.ref 56] μ = am_ret (some (.int (nI 0))) μ' ∧ ps_Nf μ0 (3, (ps_hk T).2.1) μ') else ∃ μ', am_call (d + 9) 1030 [.ref 56] μ = am_ret (some (.int (nI 1))) μ' ∧ ps_Ng tp tl μ0 s0 (o + 1) T.tail cs μ' := by
  have h21 : μ 56 21 = nI o := h.2.2.1
  rw [e1030, q1030_0, h21]
  by_cases h8 : o = 8
  · rw [if_pos h8, if_pos (by rw [h8]; rfl)]
    exact v1027g (pre := []) (d + 7) h 3 o
  · obtain ⟨μ', e1, e2⟩ := v1026' d hM (h.opn (o + 1)) h0
    rw [if_neg h8, if_neg (by rw [am_cN, am_eqN (by omega) (by omega)]; exact h8), q1030_15, h21, show nI o + am_c 1 = nI (o + 1) from nI_add _ 1, e1, am_bV_ret]
    exact ⟨μ', rfl, e2⟩
theorem v1036C (d : Nat) (hM : ps_Mt tp tl μ0) : ps_Sq tp tl μ0 s0 o ps_pC (fun μ => am_ev (am_call (d + 11)) 1036 92 [.ref 56, .null] [] μ) := by
  intro pre T μ h hb
  show ps_Od tp tl μ0 s0 o pre (ps_pC T) (am_ev (am_call (d + 11)) 1036 92 [.ref 56, .null] [] μ)
  rw [q1036_92, ps_pC]
  refine (v1031 d hM pre T μ h hb).bnd (fun μ' => rfl) (fun R c μ1 hr hP => ?_)
  obtain ⟨g1, g2, g3⟩ := (ps_pS_ok h.ge).inr3 hr
  have h24 := g1.hd.1
  have b1 := hP.h.1
  show ps_Od tp tl μ0 s0 o pre _ (if nI 1 = 0 then _ else am_ev (am_call (d + 11)) 1036 101 _ [] μ1)
  rw [if_neg (show ¬ nI 1 = 0 by decide), q1036_101, b1]
  have go : ∀ v : Nat, v = ps_opC (ps_hk R).1 → v ≠ 0 → v ≠ 16 → v < 100 → ps_Od tp tl μ0 s0 o pre (ps_bnd (ps_pS R.tail) (fun R' c' => .inr (R', c ++ c' ++ [(ps_opC (ps_hk R).1, 0)]))) (am_ev (am_call (d + 11)) 1036 147 [.ref 56, .null] [.int (nI v)] μ1) := by
    intro v hv h0 h16 h100
    have hz : (ps_hk R).1 ≠ 0 := fun e => h0 (by rw [hv, e]; rfl)
    obtain ⟨t1, t2⟩ := g1.tail hz
    obtain ⟨μ2, s1, s2⟩ := v1026' (d + 3) hM hP hz
    have nm : ¬ nI v = am_c (-1) := fun e => by
      have h1 := congrArg am_ix e
      rw [am_ixN (by omega)] at h1
      have h2 : am_ix (am_c (-1)) = 4294967295 := by decide
      omega
    rw [q1036_147, if_neg nm, q1036_159, s1, am_bV_ret]
    refine (v1031 d hM (pre ++ c) R.tail μ2 s2 (by rw [List.length_append]; omega)).bnd (fun μ' => rfl) (fun R2 c2 μ3 hr2 hP2 => ?_)
    obtain ⟨u1, u2, u3⟩ := (ps_pS_ok t1).inr3 hr2
    have u4 := u1.hd.2.2
    obtain ⟨μ4, l1, l2⟩ := v1029 (d + 10) hP2 (by rw [List.length_append, List.length_append]; omega) (x2 := am_c 0) v 0 (fun e => by omega)
    show ps_Od tp tl μ0 s0 o pre _ (if nI 1 = 0 then _ else am_ev (am_call (d + 11)) 1036 172 _ [] μ3)
    rw [if_neg (show ¬ nI 1 = 0 by decide), q1036_172, l1, am_bV_ret]
    refine ⟨μ4, rfl, ?_⟩
    show ps_Ng tp tl μ0 s0 o R2 (pre ++ (c ++ c2 ++ [(ps_opC (ps_hk R).1, 0)])) μ4
    rw [← hv, ← List.append_assoc, ← List.append_assoc]
    exact l2
  by_cases h1 : (ps_hk R).1 = 22
  · have ho : 17 = ps_opC (ps_hk R).1 := by rw [h1]; rfl
    rw [if_neg (show ¬ ps_opC (ps_hk R).1 = 0 by omega), if_pos (show nI (ps_mt (ps_hk R).1) = am_c 160 by rw [h1]; rfl)]
    exact go 17 ho (by decide) (by decide) (by decide)
  · rw [if_neg (show ¬ nI (ps_mt (ps_hk R).1) = am_c 160 from ps_mtn 22 h24 (by omega) rfl h1), q1036_116, b1]
    by_cases h2 : (ps_hk R).1 = 23
    · have ho : 18 = ps_opC (ps_hk R).1 := by rw [h2]; rfl
      rw [if_neg (show ¬ ps_opC (ps_hk R).1 = 0 by omega), if_pos (show nI (ps_mt (ps_hk R).1) = am_c 161 by rw [h2]; rfl)]
      exact go 18 ho (by decide) (by decide) (by decide)
    · rw [if_neg (show ¬ nI (ps_mt (ps_hk R).1) = am_c 161 from ps_mtn 23 h24 (by omega) rfl h2), q1036_131, b1]
      by_cases h3 : (ps_hk R).1 = 24
      · have ho : 19 = ps_opC (ps_hk R).1 := by rw [h3]; rfl
        rw [if_neg (show ¬ ps_opC (ps_hk R).1 = 0 by omega), if_pos (show nI (ps_mt (ps_hk R).1) = am_c 162 by rw [h3]; rfl)]
        exact go 19 ho (by decide) (by decide) (by decide)
      · have ho : ps_opC (ps_hk R).1 = 0 := by unfold ps_opC; rw [if_neg h1, if_neg h2, if_neg h3]
        rw [if_pos ho, if_neg (show ¬ nI (ps_mt (ps_hk R).1) = am_c 162 from ps_mtn 24 h24 (by omega) rfl h3), q1036_146, q1036_147, if_pos rfl]
        exact v1027g (d + 10) hP 1 o
theorem v1035 (D : Nat) (hM : ps_Mt tp tl μ0) {m : Nat} {B : List ps_K → ps_R} (hB : ∀ T, ps_ge T → ps_gd' T true m (B T)) (hX : ps_Sq tp tl μ0 s0 o B (am_call (D + 8) 1036 [.ref 56])) : ps_Sq tp tl μ0 s0 o (ps_lp B ps_opA) (am_call (D + 9) 1035 [.ref 56]) := by
  have e : am_call (D + 9) 1035 [.ref 56] = fun μ => am_bI (am_call (D + 8) 1036 [.ref 56] μ) (fun r1 m1 => if r1 = 0 then am_ret (some (.int (am_c 0))) m1 else am_ev (am_call (D + 8)) 1035 9 [.ref 56] [] m1) := by
    funext μ
    rw [e1035, q1035_0]
  rw [e]
  refine v_lp D hM (F := fun _ μ => am_ev (am_call (D + 8)) 1035 9 [.ref 56] [] μ) (op := ps_opA) rfl (fun k hk => (ps_opA_ok k).1) hB hX (fun x k μ h24 b1 hk => ?_) (fun x k μ h24 b1 hk => ⟨.null, ?_⟩) .null
  · have n7 : k ≠ 7 := fun e => by rw [e] at hk; exact absurd hk (by decide)
    show am_ev (am_call (D + 8)) 1035 9 [.ref 56] [] μ = _
    rw [q1035_9, b1, if_neg (show ¬ nI (ps_mt k) = am_c 5 from ps_mtn 7 h24 (by omega) rfl n7), q1035_40]
  · have h7 : k = 7 := by
      unfold ps_opA at hk
      by_cases h7 : k = 7
      · exact h7
      · rw [if_neg h7] at hk; exact absurd rfl hk
    subst h7
    show am_ev (am_call (D + 8)) 1035 9 [.ref 56] [] μ = _
    rw [q1035_9, b1, if_pos (show nI (ps_mt 7) = am_c 5 from rfl)]
    simp only [q1035_30]
    rfl
theorem v1034 (D : Nat) (hM : ps_Mt tp tl μ0) {m : Nat} {B : List ps_K → ps_R} (hB : ∀ T, ps_ge T → ps_gd' T true m (B T)) (hX : ps_Sq tp tl μ0 s0 o B (am_call (D + 8) 1035 [.ref 56])) : ps_Sq tp tl μ0 s0 o (ps_lp B ps_opO) (am_call (D + 9) 1034 [.ref 56]) := by
  have e : am_call (D + 9) 1034 [.ref 56] = fun μ => am_bI (am_call (D + 8) 1035 [.ref 56] μ) (fun r1 m1 => if r1 = 0 then am_ret (some (.int (am_c 0))) m1 else am_ev (am_call (D + 8)) 1034 9 [.ref 56] [] m1) := by
    funext μ
    rw [e1034, q1034_0]
  rw [e]
  refine v_lp D hM (F := fun _ μ => am_ev (am_call (D + 8)) 1034 9 [.ref 56] [] μ) (op := ps_opO) rfl (fun k hk => (ps_opO_ok k).1) hB hX (fun x k μ h24 b1 hk => ?_) (fun x k μ h24 b1 hk => ⟨.null, ?_⟩) .null
  · have n6 : k ≠ 6 := fun e => by rw [e] at hk; exact absurd hk (by decide)
    show am_ev (am_call (D + 8)) 1034 9 [.ref 56] [] μ = _
    rw [q1034_9, b1, if_neg (show ¬ nI (ps_mt k) = am_c 4 from ps_mtn 6 h24 (by omega) rfl n6), q1034_40]
  · have h6 : k = 6 := by
      unfold ps_opO at hk
      by_cases h6 : k = 6
      · exact h6
      · rw [if_neg h6] at hk; exact absurd rfl hk
    subst h6
    show am_ev (am_call (D + 8)) 1034 9 [.ref 56] [] μ = _
    rw [q1034_9, b1, if_pos (show nI (ps_mt 6) = am_c 4 from rfl)]
    simp only [q1034_30]
    rfl
theorem ps_Nf.od {pre : ps_C} {e : Nat × Nat} {μ : am_Mem} (h : ps_Nf μ0 e μ) : ps_Od tp tl μ0 s0 o pre (.inl e) (am_ret (some (.int (am_c 0))) μ) := ⟨μ, rfl, h⟩
theorem v1036 (hM : ps_Mt tp tl μ0) : ∀ (k D : Nat), k ≤ 8 → 12 + 3 * k ≤ D → ps_Sq tp tl μ0 s0 (8 - k) (ps_pX k) (am_call D 1036 [.ref 56]) := by
  intro k
  induction k with
  | zero =>
    intro D _ hD pre T μ h hb
    obtain ⟨d, hd⟩ : ∃ d, D = d + 12 := ⟨D - 12, by omega⟩
    subst hd
    have h24 := h.ge.hd.1
    have b1 := h.h.1
    show ps_Od tp tl μ0 s0 8 pre (ps_pX 0 T) (am_call (d + 11 + 1) 1036 _ μ)
    rw [e1036, q1036_0, b1, ps_pX]
    have op := fun h0 => v1030 (d + 2) hM h (Nat.le_refl 8) h0
    by_cases h8 : (ps_hk T).1 = 8
    · have w := op (by omega)
      rw [if_pos rfl] at w
      obtain ⟨μ1, e1, e2⟩ := w
      rw [if_pos (show (ps_hk T).1 = 8 ∨ (ps_hk T).1 = 20 from Or.inl h8), if_pos (show nI (ps_mt (ps_hk T).1) = am_c 6 by rw [h8]; rfl), e1, am_bI_ret, if_pos (show nI 0 = 0 from rfl), q1036_23]
      exact e2.od
    · rw [if_neg (show ¬ nI (ps_mt (ps_hk T).1) = am_c 6 from ps_mtn 8 h24 (by omega) rfl h8), q1036_44, b1]
      by_cases h20 : (ps_hk T).1 = 20
      · have w := op (by omega)
        rw [if_pos rfl] at w
        obtain ⟨μ1, e1, e2⟩ := w
        rw [if_pos (show (ps_hk T).1 = 8 ∨ (ps_hk T).1 = 20 from Or.inr h20), if_pos (show nI (ps_mt (ps_hk T).1) = am_c 140 by rw [h20]; rfl), e1, am_bI_ret, if_pos (show nI 0 = 0 from rfl), q1036_78]
        exact e2.od
      · rw [if_neg (show ¬ ((ps_hk T).1 = 8 ∨ (ps_hk T).1 = 20) by omega), if_neg (show ¬ nI (ps_mt (ps_hk T).1) = am_c 140 from ps_mtn 20 h24 (by omega) rfl h20)]
        exact v1036C d hM pre T μ h hb
  | succ k ih =>
    intro D hk8 hD pre T μ h hb
    obtain ⟨d, hd⟩ : ∃ d, D = d + 12 := ⟨D - 12, by omega⟩
    subst hd
    have h24 := h.ge.hd.1
    have b1 := h.h.1
    have ho : 8 - (k + 1) + 1 = 8 - k := by omega
    show ps_Od tp tl μ0 s0 (8 - (k + 1)) pre (ps_pX (k + 1) T) (am_call (d + 11 + 1) 1036 _ μ)
    rw [e1036, q1036_0, b1, ps_pX]
    have op := fun h0 => v1030 (d + 2) hM h (show 8 - (k + 1) ≤ 8 by omega) h0
    rw [if_neg (show ¬ 8 - (k + 1) = 8 by omega), ho] at op
    have dn : ∀ {R : List ps_K} {cs : ps_C} {μ1 : am_Mem}, ps_Ng tp tl μ0 s0 (8 - k) R cs μ1 → ps_Ng tp tl μ0 s0 (8 - (k + 1)) R cs (am_up μ1 56 21 (μ1 56 21 - am_c 1)) := fun {R cs μ1} hg => by
      have e21 : μ1 56 21 - am_c 1 = nI (8 - (k + 1)) := by
        rw [hg.2.2.1, am_cN, pk_sub (by omega)]
        congr 1
      rw [e21]
      exact hg.opn _
    by_cases h8 : (ps_hk T).1 = 8
    · obtain ⟨μ1, e1, e2⟩ := op (by omega)
      obtain ⟨t1, t2⟩ := h.ge.tail (by omega)
      rw [if_pos h8, if_pos (show nI (ps_mt (ps_hk T).1) = am_c 6 by rw [h8]; rfl), e1, am_bI_ret, if_neg (show ¬ nI 1 = 0 by decide)]
      refine (ih (d + 11) (by omega) (by omega) pre T.tail μ1 e2 (by omega)).bnd (fun μ' => by rw [if_pos (show nI 0 = 0 from rfl), q1036_23]; rfl) (fun R c μ2 hr hP => ?_)
      obtain ⟨g1, g2, g3⟩ := (ps_pX_ok k t1).inr3 hr
      have g4 := g1.hd.2.2
      obtain ⟨μ3, l1, l2⟩ := v1029 (d + 10) (dn hP) (by rw [List.length_append]; omega) (x2 := am_c 0) 20 0 (fun e => by omega)
      rw [if_neg (show ¬ nI 1 = 0 by decide), q1036_25, show am_c 20 = nI 20 from rfl, l1, am_bV_ret]
      refine ⟨μ3, rfl, ?_⟩
      show ps_Ng tp tl μ0 s0 _ R (pre ++ (c ++ [(20, 0)])) μ3
      rw [← List.append_assoc]
      exact l2
    · rw [if_neg h8, if_neg (show ¬ nI (ps_mt (ps_hk T).1) = am_c 6 from ps_mtn 8 h24 (by omega) rfl h8), q1036_44, b1]
      by_cases h20 : (ps_hk T).1 = 20
      · obtain ⟨μ1, e1, e2⟩ := op (by omega)
        obtain ⟨t1, t2⟩ := h.ge.tail (by omega)
        have x1 := v1035 (d + 1) hM (m := 4 + 2 * k) (fun T hT => ps_pX_ok k hT) (ih (d + 9) (by omega) (by omega))
        have x2 := v1034 (d + 2) hM (m := 4 + 2 * k + 1) (fun T hT => ps_lp_ok (fun T hT => ps_pX_ok k hT) rfl (fun j => (ps_opA_ok j).1) (fun j => (ps_opA_ok j).2) hT) x1
        rw [if_pos h20, if_pos (show nI (ps_mt (ps_hk T).1) = am_c 140 by rw [h20]; rfl), e1, am_bI_ret, if_neg (show ¬ nI 1 = 0 by decide)]
        refine (x2 pre T.tail μ1 e2 (by omega)).bnd (fun μ' => by rw [if_pos (show nI 0 = 0 from rfl), q1036_78]; rfl) (fun R c μ2 hr hP => ?_)
        have w := v1028 (d + 2) hM hP (k := 21) (by decide) (by decide)
        rw [if_neg (show ¬ nI 1 = 0 by decide), show am_c 141 = nI (ps_mt 21) from rfl]
        by_cases h21 : (ps_hk R).1 = 21
        · rw [if_pos h21] at w ⊢
          obtain ⟨μ3, f1, f2⟩ := w
          rw [f1, am_bI_ret, if_neg (show ¬ nI 1 = 0 by decide), q1036_80]
          have f2 : ps_Ng tp tl μ0 s0 (8 - k) R.tail (pre ++ c ++ []) μ3 := f2
          rw [List.append_nil] at f2
          exact ⟨_, rfl, dn f2⟩
        · rw [if_neg h21] at w ⊢
          obtain ⟨μ3, f1, f2⟩ := w
          rw [f1, am_bI_ret, if_pos (show nI 0 = 0 from rfl), q1036_78]
          exact ⟨μ3, rfl, f2⟩
      · rw [if_neg h20, if_neg (show ¬ nI (ps_mt (ps_hk T).1) = am_c 140 from ps_mtn 20 h24 (by omega) rfl h20)]
        exact v1036C d hM pre T μ h hb
end ParN
