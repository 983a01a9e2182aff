variable {bG : Nat}
/-! entry -/
def ps_ent (S : ps_S) (n : Nat) (hd ct : Nat → Nat) (us : Nat → Nat → Nat) : ps_S := (S.w, S.mk, S.kn, S.lim, S.chg, S.ed, S.sta, n, hd, ct, us, S.bn, S.bk, S.law)
section Ops10
variable {S : ps_S} {μ : am_Mem}
theorem ps_Rc.ent (h : ps_Rc 1 S μ) {n : Nat} {hd ct : Nat → Nat} {us : Nat → Nat → Nat} {μ' : am_Mem} (e1 : ∀ i, i ≠ 7 → μ' 1 i = μ 1 i) (e2 : μ' 2 = μ 2) (e6 : μ' 6 = μ 6) (hn : μ' 1 7 = nI n) (hh : ∀ e, e < n → μ' 3 e = nI (hd e)) (hc : ∀ e, e < n → μ' 4 e = nI (ct e)) (hu : ∀ e i, e < n → i < ct e → μ' 5 (e * 3 + i) = nI (us e i)) : ps_Rc 1 (ps_ent S n hd ct us) μ' := by
  obtain ⟨r1, r2, r3, r4, r5, r6, r7, r8, r9, r10, r11, r12, r13⟩ := h
  exact ⟨by rw [e1 4 (by omega)]; exact r1, fun k hk => by rw [show μ' (1 + 1) = μ 2 from e2]; exact r2 k hk, by rw [e1 6 (by omega)]; exact r3, by rw [e1 1 (by omega)]; exact r4, by rw [e1 2 (by omega)]; exact r5, by rw [e1 3 (by omega)]; exact r6, by rw [e1 0 (by omega)]; exact r7, hn, hh, hc, hu, by rw [e1 11 (by omega)]; exact r12, fun i f hi hf => by rw [show μ' (1 + 5) = μ 6 from e6]; exact r13 i f hi hf⟩
theorem ps_Rm.ent (h : ps_Rm 57 S μ) (hW : ps_Wf S) {n : Nat} {hd ct : Nat → Nat} {us : Nat → Nat → Nat} {μ' : am_Mem} (e1 : ∀ i, i ≠ 1 → i < 45 ∨ 110 ≤ i → μ' 57 i = μ 57 i) (hn : μ' 57 1 = nI n) (hh : ∀ e, e < n → μ' 57 (45 + 5 * e) = nI (hd e)) (hc : ∀ e, e < n → μ' 57 (46 + 5 * e) = nI (ct e)) (hu : ∀ e i, e < n → i < ct e → μ' 57 (47 + 5 * e + i) = nI (us e i)) : ps_Rm 57 (ps_ent S n hd ct us) μ' := by
  have w1 : S.w ≤ 16 := hW.1
  obtain ⟨r1, r2, r3, r4, r5, r6, r7, r8, r9, r10, r11, r12, r13⟩ := h
  refine ⟨by rw [e1 0 (by omega) (by omega)]; exact r1, fun k hk => ?_, fun k hk => ?_, by rw [e1 2 (by omega) (by omega)]; exact r4, by rw [e1 3 (by omega) (by omega)]; exact r5, by rw [e1 4 (by omega) (by omega)]; exact r6, by rw [e1 6 (by omega) (by omega)]; exact r7, hn, hh, hc, hu, by rw [e1 5 (by omega) (by omega)]; exact r12, fun i f hi hf => by rw [e1 _ (by omega) (by omega)]; exact r13 i f hi hf⟩
  · have hk : k < S.w := hk
    rw [e1 _ (by omega) (by omega)]
    exact r2 k hk
  · have hk : k < S.w := hk
    rw [e1 _ (by omega) (by omega)]
    exact r3 k hk
end Ops10
theorem ps_Ow.fg {O : ps_O} (hO : ps_Ow O) {S : ps_S} (hW : ps_Wf S) (hl : S.law = O.S.law) : ps_Ow (O.fg S) := by
  obtain ⟨o1, o2, o3, o4, o5, o6, o7, o8⟩ := hO
  refine ⟨hW, ?_, o3, o4, Nat.zero_le _, Nat.zero_le _, fun j p hp => ?_, o8⟩
  · show ps_Lw S.law
    rw [hl]; exact o2
  · have hp : ([] : List ps_P)[j]? = some p := hp
    simp at hp
abbrev ps_eok (w : Nat) (x a b c : Int32) : Prop := am_ix x < w ∧ am_ix a < w ∧ a ≠ x ∧ (b = am_c (-1) ∧ c = am_c (-1) ∨ am_ix b < w ∧ b ≠ x ∧ b ≠ a ∧ (c = am_c (-1) ∨ am_ix c < w ∧ c ≠ x ∧ c ≠ a ∧ c ≠ b))
theorem am_retT {P : Prop} {dP : Decidable P} (h : P) (μ : am_Mem) : am_ret (some (.int (am_c 1))) μ = am_ret (some (.int (nI (decide P).toNat))) μ := by
  rw [decide_eq_true h]; rfl
theorem am_retF {P : Prop} {dP : Decidable P} (h : ¬ P) (μ : am_Mem) : am_ret (some (.int (am_c 0))) μ = am_ret (some (.int (nI (decide P).toNat))) μ := by
  rw [decide_eq_false h]; rfl
theorem am_dec0 {P : Prop} {dP : Decidable P} : (nI (decide P).toNat = 0) = ¬ P := by
  rw [am_b0, decide_eq_false_iff_not]
theorem am_ixm1 : am_ix (am_c (-1)) = 4294967295 := by decide +kernel
theorem am_wm1 {w : Nat} {x : Int32} (h : am_ix x < w) (hw : w ≤ 16) : x ≠ am_c (-1) := fun e => by
  rw [e, am_ixm1] at h
  omega
theorem ps_ite1 {α : Type} (A B : α) {p1 p2 p3 b1 b2 b3 b4 c1 c2 c3 c4 c5 : Prop} [Decidable p1] [Decidable p2] [Decidable p3] [Decidable b1] [Decidable b2] [Decidable b3] [Decidable b4] [Decidable c1] [Decidable c2] [Decidable c3] [Decidable c4] [Decidable c5] (z : b2 → ¬ b1) : (if ¬p1 then A else if ¬ p2 then A else if p3 then A else if b1 then (if c1 then B else A) else if ¬b2 then A else if b3 then A else if b4 then A else if c1 then B else if ¬c2 then A else if c3 then A else if c4 then A else if c5 then A else B) = if p1 ∧ p2 ∧ ¬p3 ∧ (b1 ∧ c1 ∨ b2 ∧ ¬b3 ∧ ¬b4 ∧ (c1 ∨ c2 ∧ ¬c3 ∧ ¬c4 ∧ ¬c5)) then B else A := by
  refine if h1 : p1 then ?_ else by simp [h1]
  refine if h2 : p2 then ?_ else by simp [h2]
  refine if h3 : p3 then by simp [h3] else ?_
  refine if h4 : b1 then ?_ else ?_
  · have h5 : ¬ b2 := fun x => z x h4
    simp [h1, h2, h3, h4, h5]
  refine if h5 : b2 then ?_ else by simp [h1, h2, h3, h4, h5]
  refine if h6 : b3 then by simp [h1, h2, h3, h4, h5, h6] else ?_
  refine if h7 : b4 then by simp [h1, h2, h3, h4, h5, h6, h7] else ?_
  refine if h8 : c1 then by simp [h1, h2, h3, h4, h5, h6, h7, h8] else ?_
  refine if h9 : c2 then ?_ else by simp [h1, h2, h3, h4, h5, h6, h7, h8, h9]
  refine if h10 : c3 then by simp [h1, h2, h3, h4, h5, h6, h7, h8, h9, h10] else ?_
  refine if h11 : c4 then by simp [h1, h2, h3, h4, h5, h6, h7, h8, h9, h10, h11] else ?_
  refine if h12 : c5 then by simp [h1, h2, h3, h4, h5, h6, h7, h8, h9, h10, h11, h12] else ?_
  simp [h1, h2, h3, h4, h5, h6, h7, h8, h9, h10, h11, h12]
theorem ps_ite2 {α : Type} (A Z : α) {p1 p2 b1 b2 c1 c2 f q : Prop} [Decidable p1] [Decidable p2] [Decidable b1] [Decidable b2] [Decidable c1] [Decidable c2] [Decidable f] [Decidable q] (hq : q ↔ ¬ f ∧ p1 ∧ p2 ∧ (b1 ∧ c1 ∨ ¬ b1 ∧ b2 ∧ (c1 ∨ ¬ c1 ∧ c2))) : (if ¬p1 then A else if ¬ p2 then A else if b1 then (if c1 then (if f then A else Z) else if b1 then A else if ¬ c2 then A else (if f then A else Z)) else if ¬ b2 then A else (if c1 then (if f then A else Z) else if b1 then A else if ¬ c2 then A else (if f then A else Z))) = if q then Z else A := by
  refine if h1 : p1 then ?_ else by simp [h1, hq]
  refine if h2 : p2 then ?_ else by simp [h2, hq]
  refine if h3 : f then ?_ else ?_
  · simp [h1, h2, h3, hq]
  refine if h4 : b1 then ?_ else ?_
  · refine if h5 : c1 then ?_ else ?_
    · simp [h1, h2, h3, h4, h5, hq]
    · simp [h1, h2, h3, h4, h5, hq]
  refine if h5 : b2 then ?_ else by simp [h1, h2, h3, h4, h5, hq]
  refine if h6 : c1 then by simp [h1, h2, h3, h4, h5, h6, hq] else ?_
  refine if h7 : c2 then by simp [h1, h2, h3, h4, h5, h6, h7, hq] else ?_
  simp [h1, h2, h3, h4, h5, h6, h7, hq]
theorem c705 (d : Nat) {μ : am_Mem} {w : Nat} (h : μ 1 4 = nI w) (hw : w ≤ 16) (x a b c : Int32) : am_call (d + 2) 705 [.ref 1, .int x, .int a, .int b, .int c] μ = am_ret (some (.int (nI (decide (ps_eok w x a b c)).toNat))) μ := by
  have z : ∀ y : Int32, am_ix y < w → ¬ y = am_c (-1) := fun y hy => am_wm1 hy hw
  have zb := z b
  have zc := z c
  simp only [e705, q705_0, c702 d h hw, am_bI_ret, q705_21, q705_23, q705_38, q705_39, q705_40, q705_58, q705_60, q705_93, q705_97, q705_98, am_gbt0, am_gbt1, am_dec0]
  rw [← am_retb (P := ps_eok w x a b c) inferInstance rfl μ]
  exact ps_ite1 _ _ zb
theorem m1013 (d : Nat) {μ : am_Mem} {w : Nat} (h : μ 57 0 = nI w) (hw : w ≤ 16) (x a b c : Int32) : am_call (d + 3) 1013 [.ref 56, .int x, .int a, .int b, .int c] μ = am_ret (some (.int (nI (decide (am_ix x < w ∧ x ≠ a ∧ x ≠ b ∧ x ≠ c)).toNat))) μ := by
  simp only [e1013, q1013_0, m1002 d h hw, am_bI_ret, q1013_28, q1013_29, am_gbt0, am_gbt1, am_dec0]
  rw [← am_retb (P := am_ix x < w ∧ x ≠ a ∧ x ≠ b ∧ x ≠ c) inferInstance rfl μ]
  refine if h1 : am_ix x < w then ?_ else by simp [h1]
  refine if h2 : x = a then by simp [h2] else ?_
  refine if h3 : x = b then by simp [h3] else ?_
  refine if h4 : x = c then by simp [h4] else ?_
  simp [h1, h2, h3, h4]
def ps_ec (b c : Int32) : Nat := if b = am_c (-1) then 1 else if c = am_c (-1) then 2 else 3
def ps_eu (a b c : Int32) : Nat → Nat := fun i => if i = 0 then am_ix a else if i = 1 then am_ix b else am_ix c
def ps_entryS (S : ps_S) (x a b c : Int32) : ps_S := ps_ent S (S.n + 1) (ps_fu S.hd S.n (am_ix x)) (ps_fu S.ct S.n (ps_ec b c)) (ps_fu S.us S.n (ps_eu a b c))
def ps_entry (O : ps_O) (x a b c : Int32) : Int32 × ps_O := if O.S.n < 12 ∧ ps_eok O.S.w x a b c then (nI O.S.n, O.fg (ps_entryS O.S x a b c)) else (am_c (-1), O)
theorem ps_ec3 (b c : Int32) : 1 ≤ ps_ec b c ∧ ps_ec b c ≤ 3 := by
  unfold ps_ec
  repeat' split
  all_goals omega
theorem c706 (d : Nat) {μ : am_Mem} {n : Nat} (h : μ 1 7 = nI n) (hn : n < 12) (x a b c : Int32) : am_call (d + 1) 706 [.ref 1, .int x, .int a, .int b, .int c] μ = am_ret (some (.int (nI n))) (am_up (am_up (am_up (am_up (am_up (am_up μ 3 n x) 4 n (nI (ps_ec b c))) 5 (n * 3) a) 5 (n * 3 + 1) b) 5 (n * 3 + 2) c) 1 7 (nI (n + 1))) := by
  have step : ∀ (k : Nat) (μ1 : am_Mem), am_ev (am_call d) 706 40 [.ref 1, .int x, .int a, .int b, .int c, .int (nI n)] [.int (nI k), .int (nI n), .ref 4] μ1 = am_ret (some (.int (nI n))) (am_up (am_up (am_up (am_up (am_up μ1 4 n (nI k)) 5 (n * 3) a) 5 (n * 3 + 1) b) 5 (n * 3 + 2) c) 1 7 (nI (n + 1))) := by
    intro k μ1
    rw [q706_40]
    simp (disch := omega) only [am_cN, pk_mul, nI_add, am_ixN, am_gbI]
  rw [e706, q706_0, h, am_ixN (by omega), am_gbI hn, q706_29, q706_39, ps_ec]
  by_cases hb : b = am_c (-1)
  · rw [if_pos hb, if_pos hb]; exact step 1 _
  · rw [if_neg hb, if_neg hb]
    by_cases hc : c = am_c (-1)
    · rw [if_pos hc, if_pos hc]; exact step 2 _
    · rw [if_neg hc, if_neg hc]; exact step 3 _
theorem ps_eu_nI (a b c : Int32) {i : Nat} (hi : i < 3) : nI (ps_eu a b c i) = if i = 0 then a else if i = 1 then b else c := by
  unfold ps_eu
  repeat' split
  all_goals exact am_nIx _
theorem C_entry (d : Nat) (O : ps_O) (hO : ps_Ow O) (x a b c : Int32) : ps_sC bG (d + 3) 904 [.ref 0, .int x, .int a, .int b, .int c] O (some (.int (ps_entry O x a b c).1)) (ps_entry O x a b c).2 := by
  intro μ h
  have hR := h.1
  obtain ⟨r1, r2, r3, r4, r5, r6, r7, r8, r9, r10, r11, r12, r13⟩ := id h.1
  have w1 : O.S.w ≤ 16 := hO.1.1
  have w7 : O.S.n ≤ 12 := hO.1.2.2.2.2.2.2.1
  rw [e904, q904_0, r8, c705 d r1 w1, am_bI_ret, ps_entry]
  by_cases hc : O.S.n < 12 ∧ ps_eok O.S.w x a b c
  · rw [if_neg (by rw [am_cN, am_leN (by omega) (by omega)]; omega), decide_eq_true hc.2, if_neg (by decide), q904_29, c706 (d + 1) r8 hc.1, am_bI_ret, c401, am_bV_ret, if_pos hc]
    refine ⟨_, rfl, h.fg (S := ps_entryS O.S x a b c) (hR.ent ?_ ?_ ?_ ?_ ?_ ?_ ?_) rfl (fun K h1 h2 h3 h4 h5 h6 h7 => by rw [am_up_ne h7, am_up_ne h1, am_up_ne h5, am_up_ne h5, am_up_ne h5, am_up_ne h4, am_up_ne h3]) (by rw [am_upS]; rfl) ?_, ps_kC.up (ps_kC.up (ps_kC.up (ps_kC.up (ps_kC.up (ps_kC.up (ps_kC.up ps_kC.rf (by omega)) (by omega)) (by omega)) (by omega)) (by omega)) (by omega)) (by omega)⟩
    · intro i hi
      simp (disch := omega) only [am_upK, am_upI]
    · simp (disch := omega) only [am_up_ne]
    · simp (disch := omega) only [am_up_ne]
    · simp (disch := omega) only [am_upK, am_upS]
    · intro e he
      simp (disch := omega) only [am_upK]
      by_cases hn : e = O.S.n
      · rw [hn, am_upS, ps_fu_at, am_nIx]
      · rw [am_upI hn, ps_fu_ne hn]; exact r9 e (by omega)
    · intro e he
      simp (disch := omega) only [am_upK]
      by_cases hn : e = O.S.n
      · rw [hn, am_upS, ps_fu_at]
      · rw [am_upI hn, am_upK (by omega), ps_fu_ne hn]; exact r10 e (by omega)
    · intro e i he hi
      simp (disch := omega) only [am_upK]
      by_cases hn : e = O.S.n
      · subst hn
        rw [ps_fu_at] at hi
        have := (ps_ec3 b c).2
        rw [ps_fu_at, ps_eu_nI a b c (by omega)]
        rcases (show i = 0 ∨ i = 1 ∨ i = 2 by omega) with rfl | rfl | rfl
        · rw [am_upI (by omega), am_upI (by omega)]; exact am_upS _ _ _ _
        · rw [am_upI (by omega)]; exact am_upS _ _ _ _
        · exact am_upS _ _ _ _
      · rw [ps_fu_ne hn] at hi ⊢
        have := (hO.1.e (e := e) (by omega)).2.2.2.2.2.1
        simp (disch := omega) only [am_upI, am_upK]
        exact r11 e i (by omega) hi
    · simp (disch := omega) only [am_upK, am_upI]
  · rw [if_neg hc]
    refine ⟨μ, ?_, h, ps_kC.rf⟩
    by_cases h16 : 12 ≤ O.S.n
    · rw [if_pos (by rw [am_cN, am_leN (by omega) (by omega)]; omega), q904_27]
    · rw [if_neg (by rw [am_cN, am_leN (by omega) (by omega)]; omega), decide_eq_false (fun z => hc ⟨by omega, z⟩), if_pos (by decide), q904_27]
theorem M_entry (d : Nat) (O : ps_O) (hO : ps_Ow O) (x a b c : Int32) : ps_sM (d + 4) 1014 [.ref 56, .int x, .int a, .int b, .int c] O (some (.int (ps_entry O x a b c).1)) (ps_entry O x a b c).2 := by
  intro μ h
  have hR := h.1
  obtain ⟨r1, r2, r3, r4, r5, r6, r7, r8, r9, r10, r11, r12, r13⟩ := id h.1
  have hW := hO.1
  have w1 : O.S.w ≤ 16 := hO.1.1
  have w7 : O.S.n ≤ 12 := hO.1.2.2.2.2.2.2.1
  have z : ∀ y : Int32, am_ix y < O.S.w → ¬ y = am_c (-1) := fun y hy => am_wm1 hy w1
  have za := z a
  have zb := z b
  have zc := z c
  have hn12 : (μ 57 1 = am_c 12) = (O.S.n = 12) := by rw [r8, am_cN, am_eqN (by omega) (by omega)]
  have key : am_call (d + 4) 1014 [.ref 56, .int x, .int a, .int b, .int c] μ = if O.S.n < 12 ∧ ps_eok O.S.w x a b c then am_ev (am_call (d + 3)) 1014 71 [.ref 56, .int x, .int a, .int b, .int c, .null] [] μ else am_ret (some (.int (am_c (-1)))) μ := by
    simp only [e1014, q1014_0, m1002 (d + 1) r1 w1, m1013 d r1 w1, am_bI_ret, q1014_35, q1014_58, q1014_69, am_dec0, hn12]
    refine ps_ite2 _ _ ?_
    have n12 : O.S.n < 12 ↔ ¬ O.S.n = 12 := by omega
    unfold ps_eok
    rw [n12]
    grind
  rw [key, ps_entry]
  by_cases hc : O.S.n < 12 ∧ ps_eok O.S.w x a b c
  · rw [if_pos hc, if_pos hc]
    have step : ∀ (k : Nat) (μ1 : am_Mem), μ1 57 1 = nI O.S.n → am_ev (am_call (d + 3)) 1014 111 [.ref 56, .int x, .int a, .int b, .int c, .int (nI O.S.n)] [.int (nI k), .int (nI 1), .int (nI O.S.n), .ref 56] μ1 = am_ret (some (.int (nI O.S.n))) (am_up (am_up (am_up (am_up (am_up (am_up μ1 57 (45 + 5 * O.S.n + 1) (nI k)) 57 (45 + 5 * O.S.n + 2) a) 57 (45 + 5 * O.S.n + 3) b) 57 (45 + 5 * O.S.n + 4) c) 57 1 (nI (O.S.n + 1))) 56 3 (am_c 0)) := by
      intro k μ1 e1
      rw [q1014_111, m1006 (d + 2) (by omega), am_bV_ret, show am_c 2 = nI 2 from rfl, m1006 (d + 2) (by omega), am_bV_ret, show am_c 3 = nI 3 from rfl, m1006 (d + 2) (by omega), am_bV_ret, show am_c 4 = nI 4 from rfl, m1006 (d + 2) (by omega), am_bV_ret, m1008 (d + 2), am_bV_ret]
      simp (disch := omega) only [am_upI, e1, am_cN, nI_add]
    have go : am_ev (am_call (d + 3)) 1014 71 [.ref 56, .int x, .int a, .int b, .int c, .null] [] μ = am_ret (some (.int (nI O.S.n))) (am_up (am_up (am_up (am_up (am_up (am_up (am_up μ 57 (45 + 5 * O.S.n + 0) x) 57 (45 + 5 * O.S.n + 1) (nI (ps_ec b c))) 57 (45 + 5 * O.S.n + 2) a) 57 (45 + 5 * O.S.n + 3) b) 57 (45 + 5 * O.S.n + 4) c) 57 1 (nI (O.S.n + 1))) 56 3 (am_c 0)) := by
      have st := fun k => step k (am_up μ 57 (45 + 5 * O.S.n + 0) x) (by rw [am_upI (by omega)]; exact r8)
      rw [q1014_71, r8, show am_c 0 = nI 0 from rfl, m1006 (d + 2) (by omega), am_bV_ret, q1014_100, q1014_110, ps_ec]
      by_cases hb : b = am_c (-1)
      · rw [if_pos hb, if_pos hb]; exact st 1
      · rw [if_neg hb, if_neg hb]
        by_cases hc : c = am_c (-1)
        · rw [if_pos hc, if_pos hc]; exact st 2
        · rw [if_neg hc, if_neg hc]; exact st 3
    rw [go]
    refine ⟨_, rfl, h.fg (S := ps_entryS O.S x a b c) (hR.ent hW ?_ ?_ ?_ ?_ ?_) rfl ?_ ?_ (by rw [am_upS]; rfl) ?_, ?_⟩
    · intro i h1 h2
      simp (disch := omega) only [am_upK, am_upI]
    · simp (disch := omega) only [am_upK, am_upS]
    · intro e he
      simp (disch := omega) only [am_upK, am_upI]
      by_cases hn : e = O.S.n
      · subst hn
        rw [ps_fu_at, am_nIx]; exact am_upS _ _ _ _
      · rw [am_upI (by omega), ps_fu_ne hn]; exact r9 e (by omega)
    · intro e he
      simp (disch := omega) only [am_upK, am_upI]
      by_cases hn : e = O.S.n
      · subst hn
        rw [ps_fu_at, show 46 + 5 * O.S.n = 45 + 5 * O.S.n + 1 by omega, am_upS]
      · rw [am_upI (by omega), am_upI (by omega), ps_fu_ne hn]; exact r10 e (by omega)
    · intro e i he hi
      simp (disch := omega) only [am_upK]
      by_cases hn : e = O.S.n
      · subst hn
        rw [ps_fu_at] at hi
        have := (ps_ec3 b c).2
        rw [ps_fu_at, ps_eu_nI a b c (by omega), am_upI (by omega)]
        rcases (show i = 0 ∨ i = 1 ∨ i = 2 by omega) with rfl | rfl | rfl
        · rw [am_upI (by omega), am_upI (by omega), show 47 + 5 * O.S.n + 0 = 45 + 5 * O.S.n + 2 by omega]; exact am_upS _ _ _ _
        · rw [am_upI (by omega), show 47 + 5 * O.S.n + 1 = 45 + 5 * O.S.n + 3 by omega]; exact am_upS _ _ _ _
        · rw [show 47 + 5 * O.S.n + 2 = 45 + 5 * O.S.n + 4 by omega]; exact am_upS _ _ _ _
      · rw [ps_fu_ne hn] at hi ⊢
        have := (hO.1.e (e := e) (by omega)).2.2.2.2.2.1
        simp (disch := omega) only [am_upI]
        exact r11 e i (by omega) hi
    · intro i hi
      simp (disch := omega) only [am_upK, am_upI]
    · intro K h1 h2
      simp (disch := omega) only [am_up_ne]
    · intro i hi
      simp (disch := omega) only [am_upK, am_upI]
    · intro K hK
      simp (disch := omega) only [am_up_ne]
  · rw [if_neg hc, if_neg hc]
    exact ⟨μ, rfl, h, ps_kM.rf⟩
theorem ps_Wf.ent {S : ps_S} (hW : ps_Wf S) {n : Nat} {hd ct : Nat → Nat} {us : Nat → Nat → Nat} (hn : n ≤ 12) (he : ∀ e, e < n → hd e < S.w ∧ 1 ≤ ct e ∧ ct e ≤ 3 ∧ (∀ i, i < ct e → us e i < S.w ∧ us e i ≠ hd e) ∧ ∀ i j, i < ct e → j < ct e → us e i = us e j → i = j) : ps_Wf (ps_ent S n hd ct us) := by
  obtain ⟨a1, a2, a3, a4, a5, a6, a7, a8, a9, a10⟩ := hW
  exact ⟨a1, a2, a3, a4, a5, a6, hn, he, a9, a10⟩
theorem am_ix_inj {x y : Int32} (h : am_ix x = am_ix y) : x = y := by rw [← am_nIx x, ← am_nIx y, h]
theorem W_entry (O : ps_O) (hO : ps_Ow O) (x a b c : Int32) : ps_Ow (ps_entry O x a b c).2 := by
  unfold ps_entry
  by_cases hc : O.S.n < 12 ∧ ps_eok O.S.w x a b c
  · rw [if_pos hc]
    refine hO.fg (S := ps_entryS O.S x a b c) (hO.1.ent (by omega) (fun e he => ?_)) rfl
    by_cases hn : e = O.S.n
    · subst hn
      rw [ps_fu_at, ps_fu_at, ps_fu_at]
      obtain ⟨-, q1, q2, q3, q4⟩ := hc
      have n1 : ¬ am_ix a = am_ix x := fun e => q3 (am_ix_inj e)
      have n2 : ¬ b = x → ¬ am_ix b = am_ix x := fun n e => n (am_ix_inj e)
      have n3 : ¬ b = a → ¬ am_ix b = am_ix a := fun n e => n (am_ix_inj e)
      have n4 : ¬ c = x → ¬ am_ix c = am_ix x := fun n e => n (am_ix_inj e)
      have n5 : ¬ c = a → ¬ am_ix c = am_ix a := fun n e => n (am_ix_inj e)
      have n6 : ¬ c = b → ¬ am_ix c = am_ix b := fun n e => n (am_ix_inj e)
      refine ⟨q1, (ps_ec3 b c).1, (ps_ec3 b c).2, ?_, ?_⟩
      · intro i hi
        unfold ps_ec at hi
        unfold ps_eu
        grind
      · intro i j hi hj
        unfold ps_ec at hi hj
        unfold ps_eu
        grind
    · rw [ps_fu_ne hn, ps_fu_ne hn, ps_fu_ne hn]
      exact hO.1.2.2.2.2.2.2.2.1 e (by omega)
  · rw [if_neg hc]; exact hO
