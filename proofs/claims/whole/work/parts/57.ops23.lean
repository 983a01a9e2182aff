variable {bG : Nat}
/-! learnt -/
def ps_rg : Nat → Nat → List Nat
  | 0, _ => []
  | k + 1, e => e :: ps_rg k (e + 1)
theorem ps_rg_mem {x : Nat} : ∀ {k e : Nat}, x ∈ ps_rg k e ↔ e ≤ x ∧ x < e + k
  | 0, e => by
    rw [ps_rg]
    constructor
    · intro h
      exact absurd h (by simp)
    · intro h
      omega
  | k + 1, e => by
    rw [ps_rg, List.mem_cons, ps_rg_mem (k := k)]
    omega
theorem ps_rg_len : ∀ (k e : Nat), (ps_rg k e).length = k
  | 0, _ => rfl
  | k + 1, e => by rw [ps_rg, List.length_cons, ps_rg_len k]
def ps_gvl (S : ps_S) (k : Nat) : List Nat → Nat → Nat
  | [], a => a
  | e :: L, a => ps_gvl S k L (if ps_dif (ps_us S e) k = 0 then a ||| 2 ^ S.hd e else a)
def ps_f (S : ps_S) (L : List Nat) (k : Nat) : Nat := ps_gvl S k L k
def ps_lrn (S : ps_S) (L : List Nat) : Nat → Nat → Nat → Nat × Nat
  | 0, k, r => (k, r)
  | j + 1, k, r => if ps_f S L k = k then (k, r) else ps_lrn S L j (ps_f S L k) (r + 1)
def ps_fxl (S : ps_S) : List Nat := (ps_rg S.n 0).filter (ps_fxe S)
theorem ps_gvl_bit {S : ps_S} {k x : Nat} : ∀ {L : List Nat} {a : Nat}, (ps_gvl S k L a).testBit x = true ↔ a.testBit x = true ∨ ∃ e, e ∈ L ∧ ps_dif (ps_us S e) k = 0 ∧ S.hd e = x
  | [], a => by simp [ps_gvl]
  | e :: L, a => by
    rw [ps_gvl, ps_gvl_bit (L := L)]
    by_cases h : ps_dif (ps_us S e) k = 0
    · rw [if_pos h, Nat.testBit_or, Bool.or_eq_true, Nat.testBit_two_pow, decide_eq_true_eq]
      constructor
      · rintro ((h1 | h1) | ⟨e', h1, h2, h3⟩)
        · exact Or.inl h1
        · exact Or.inr ⟨e, by simp, h, h1⟩
        · exact Or.inr ⟨e', by simp [h1], h2, h3⟩
      · rintro (h1 | ⟨e', h1, h2, h3⟩)
        · exact Or.inl (Or.inl h1)
        · rcases List.mem_cons.mp h1 with rfl | h1
          · exact Or.inl (Or.inr h3)
          · exact Or.inr ⟨e', h1, h2, h3⟩
    · rw [if_neg h]
      constructor
      · rintro (h1 | ⟨e', h1, h2, h3⟩)
        · exact Or.inl h1
        · exact Or.inr ⟨e', by simp [h1], h2, h3⟩
      · rintro (h1 | ⟨e', h1, h2, h3⟩)
        · exact Or.inl h1
        · rcases List.mem_cons.mp h1 with rfl | h1
          · exact absurd h2 h
          · exact Or.inr ⟨e', h1, h2, h3⟩
theorem ps_bx {a b : Nat} (h : ∀ x, a.testBit x = true ↔ b.testBit x = true) : a = b := by
  apply Nat.eq_of_testBit_eq
  intro i
  have := h i
  cases ha : a.testBit i <;> cases hb : b.testBit i <;> simp_all
theorem ps_gvl_or {S : ps_S} {k : Nat} {L : List Nat} {a b : Nat} : ps_gvl S k L (a ||| b) = a ||| ps_gvl S k L b := by
  apply ps_bx
  intro x
  rw [ps_gvl_bit, Nat.testBit_or, Nat.testBit_or, Bool.or_eq_true, Bool.or_eq_true, ps_gvl_bit, or_assoc]
theorem ps_f_or {S : ps_S} {k : Nat} {L : List Nat} : k ||| ps_gvl S k L 0 = ps_f S L k := by
  rw [ps_f, ← ps_gvl_or, Nat.or_zero]
theorem ps_gvl_lt {S : ps_S} {k n : Nat} {L : List Nat} {a : Nat} (hL : ∀ e, e ∈ L → S.hd e < n) (ha : a < 2 ^ n) : ps_gvl S k L a < 2 ^ n := by
  apply Nat.lt_pow_two_of_testBit
  intro i hi
  apply Bool.eq_false_iff.mpr
  intro h
  rcases ps_gvl_bit.mp h with h1 | ⟨e, h1, h2, h3⟩
  · rw [Nat.testBit_lt_two_pow (Nat.lt_of_lt_of_le ha (Nat.pow_le_pow_right (by omega) hi))] at h1
    exact absurd h1 (by decide)
  · have := hL e h1
    omega
/-- how many rules have their head still outside -/
def ps_ms (S : ps_S) (L : List Nat) (k : Nat) : Nat := (L.filter (fun e => !k.testBit (S.hd e))).length
theorem ps_flt_le {p q : Nat → Bool} : ∀ {L : List Nat}, (∀ x, x ∈ L → p x = true → q x = true) → (L.filter p).length ≤ (L.filter q).length
  | [], _ => by simp
  | a :: L, h => by
    have ih := ps_flt_le (p := p) (q := q) (L := L) (fun x hx => h x (by simp [hx]))
    have ha := h a (by simp)
    cases hp : p a with
    | true =>
      have hq := ha hp
      rw [List.filter_cons_of_pos hp, List.filter_cons_of_pos hq, List.length_cons, List.length_cons]
      omega
    | false =>
      rw [List.filter_cons_of_neg (by simp [hp])]
      cases hq : q a with
      | true => rw [List.filter_cons_of_pos hq, List.length_cons]; omega
      | false => rw [List.filter_cons_of_neg (by simp [hq])]; exact ih
theorem ps_flt_lt {p q : Nat → Bool} {e : Nat} : ∀ {L : List Nat}, (∀ x, x ∈ L → p x = true → q x = true) → e ∈ L → p e = false → q e = true → (L.filter p).length < (L.filter q).length
  | [], _, he, _, _ => by simp at he
  | a :: L, h, he, h1, h2 => by
    have hle := ps_flt_le (p := p) (q := q) (L := L) (fun x hx => h x (by simp [hx]))
    rcases List.mem_cons.mp he with rfl | he
    · rw [List.filter_cons_of_neg (by simp [h1]), List.filter_cons_of_pos h2, List.length_cons]
      omega
    · have ih := ps_flt_lt (p := p) (q := q) (L := L) (fun x hx => h x (by simp [hx])) he h1 h2
      have ha := h a (by simp)
      cases hp : p a with
      | true =>
        have hq := ha hp
        rw [List.filter_cons_of_pos hp, List.filter_cons_of_pos hq, List.length_cons, List.length_cons]
        omega
      | false =>
        rw [List.filter_cons_of_neg (by simp [hp])]
        cases hq : q a with
        | true => rw [List.filter_cons_of_pos hq, List.length_cons]; omega
        | false => rw [List.filter_cons_of_neg (by simp [hq])]; exact ih
theorem ps_ms_lt {S : ps_S} {L : List Nat} {k : Nat} (h : ¬ ps_f S L k = k) : ps_ms S L (ps_f S L k) < ps_ms S L k := by
  have hex : ∃ e, e ∈ L ∧ ps_dif (ps_us S e) k = 0 ∧ k.testBit (S.hd e) = false := by
    apply Classical.byContradiction
    intro hno
    apply h
    apply ps_bx
    intro x
    rw [ps_f, ps_gvl_bit]
    constructor
    · rintro (h1 | ⟨e, h1, h2, h3⟩)
      · exact h1
      · cases hb : k.testBit x with
        | true => rfl
        | false => exact absurd ⟨e, h1, h2, by rw [h3]; exact hb⟩ hno
    · exact Or.inl
  obtain ⟨e, h1, h2, h3⟩ := hex
  refine ps_flt_lt (e := e) (fun x hx hp => ?_) h1 ?_ ?_
  · cases hb : k.testBit (S.hd x) with
    | false => rfl
    | true =>
      have : (ps_f S L k).testBit (S.hd x) = true := ps_gvl_bit.mpr (Or.inl hb)
      rw [this] at hp
      exact absurd hp (by decide)
  · have : (ps_f S L k).testBit (S.hd e) = true := ps_gvl_bit.mpr (Or.inr ⟨e, h1, h2, rfl⟩)
    rw [this]; rfl
  · rw [h3]; rfl
theorem ps_ms_le (S : ps_S) (L : List Nat) (k : Nat) : ps_ms S L k ≤ L.length := List.length_filter_le _ _
/-- the rules in the component's cells -/
def ps_Ru (S : ps_S) (L : List Nat) (μ : am_Mem) : Prop := μ 42 2 = nI L.length ∧ ∀ r e, L[r]? = some e → μ 43 r = nI (ps_us S e) ∧ μ 44 r = nI (2 ^ S.hd e)
theorem ps_Ru.off {S : ps_S} {L : List Nat} {μ μ' : am_Mem} (h : ps_Ru S L μ) (e2 : μ' 42 2 = μ 42 2) (e3 : μ' 43 = μ 43) (e4 : μ' 44 = μ 44) : ps_Ru S L μ' := by
  unfold ps_Ru
  rw [e2, e3, e4]
  exact h
section Ops23
variable {S : ps_S}
theorem w503 (d : Nat) {μ : am_Mem} (hR : ps_Rc 1 S μ) (hW : ps_Wf S) {L : List Nat} (hL : ps_Ru S L μ) (hl : L.length < 12) {e : Nat} (he : e < S.n) : ∃ μ', am_call (d + 2) 503 [.ref 42, .ref 1, .int (nI e)] μ = am_ret none μ' ∧ ps_off [42, 43, 44] μ μ' ∧ ps_Ru S (L ++ [e]) μ' := by
  obtain ⟨g1, g2, g3, g4, g5, g6, g7, g8, g9⟩ := hW.e he
  have hh : μ 3 e = nI (S.hd e) := hR.2.2.2.2.2.2.2.2.1 e he
  have h2 : μ 42 2 = nI L.length := hL.1
  rw [e503, q503_0, w711 d hR hW he, am_bI_ret]
  simp (disch := omega) only [am_upK, h2, hh, am_ixN, am_gbI, am_cN, am_shl1, nI_add]
  refine ⟨_, rfl, ((ps_off.rf.up (by decide)).up (by decide)).up (by decide), ?_, fun r e' hr => ?_⟩
  · rw [am_upS, List.length_append]; rfl
  · rw [List.getElem?_append] at hr
    by_cases hrl : r < L.length
    · rw [if_pos hrl] at hr
      rw [am_upK (by omega), am_upK (by omega), am_upI (by omega), am_upK (by omega), am_upI (by omega), am_upK (by omega)]
      exact hL.2 r e' hr
    · rw [if_neg hrl] at hr
      have hr0 : r - L.length = 0 := by
        rcases Nat.eq_zero_or_pos (r - L.length) with z | z
        · exact z
        · rw [List.getElem?_eq_none (by rw [List.length_singleton]; omega)] at hr
          exact absurd hr (by simp)
      have hrL : r = L.length := by omega
      rw [hr0] at hr
      have : e = e' := by simpa using hr
      subst this hrL
      exact ⟨by rw [am_upK (by omega), am_upK (by omega), am_upS], by rw [am_upK (by omega), am_upS]⟩
theorem w502_7 (d : Nat) (hW : ps_Wf S) (hl : ps_Lw S.law) : ∀ k e (A : List Nat) (μ : am_Mem), ps_Rc 1 S μ → ps_Lc 7 S.law μ → e + k = S.n → ps_Ru S A μ → A.length ≤ e → ∃ μ', am_ev (am_call (d + 4)) 502 7 [.ref 42, .ref 1, .int (nI e)] [] μ = am_ret none μ' ∧ ps_scC μ μ' ∧ ps_Ru S (A ++ (ps_rg k e).filter (ps_fxe S)) μ' := by
  have n12 : S.n ≤ 12 := hW.2.2.2.2.2.2.1
  intro k
  induction k with
  | zero =>
    intro e A μ hR hL he hA hA2
    have r8 : μ 1 7 = nI S.n := hR.2.2.2.2.2.2.2.1
    rw [q502_7, r8, if_pos (by rw [am_leN (by omega) (by omega)]; omega), q502_35]
    refine ⟨μ, rfl, ps_scC.rf μ, ?_⟩
    rw [ps_rg, List.filter_nil, List.append_nil]
    exact hA
  | succ k ih =>
    intro e A μ hR hL he hA hA2
    have r8 : μ 1 7 = nI S.n := hR.2.2.2.2.2.2.2.1
    obtain ⟨μ1, a1, a2⟩ := w717 d hR hL hW hl (e := e) (by omega)
    have s1 : ps_scC μ μ1 := ps_scC.of a2 rfl
    have hA1 : ps_Ru S A μ1 := hA.off (by rw [a2 42 (by decide)]) (a2 43 (by decide)) (a2 44 (by decide))
    rw [q502_7, r8, if_neg (by rw [am_leN (by omega) (by omega)]; omega), a1, am_bI_ret, ps_rg]
    cases hb : ps_fxe S e with
    | false =>
      obtain ⟨μ', b1, b2, b3⟩ := ih (e + 1) A μ1 (s1.R hR) (s1.L hL) (by omega) hA1 (by omega)
      rw [if_pos (by decide), q502_29, am_cN, nI_add, b1, List.filter_cons_of_neg (by simp [hb])]
      exact ⟨μ', rfl, s1.tr b2, b3⟩
    | true =>
      obtain ⟨μ2, c1, c2, c3⟩ := w503 (d + 2) (s1.R hR) hW hA1 (by omega) (e := e) (by omega)
      have s2 : ps_scC μ μ2 := s1.tr (ps_scC.of c2 rfl)
      obtain ⟨μ', b1, b2, b3⟩ := ih (e + 1) (A ++ [e]) μ2 (s2.R hR) (s2.L hL) (by omega) c3 (by rw [List.length_append]; exact Nat.succ_le_succ hA2)
      rw [if_neg (by decide), c1, am_bV_ret, q502_29, am_cN, nI_add, b1, List.filter_cons_of_pos hb]
      refine ⟨μ', rfl, s2.tr b2, ?_⟩
      rw [List.append_assoc] at b3
      exact b3
theorem w502 (d : Nat) (hW : ps_Wf S) (hl : ps_Lw S.law) {μ : am_Mem} (hR : ps_Rc 1 S μ) (hL : ps_Lc 7 S.law μ) : ∃ μ', am_call (d + 5) 502 [.ref 42, .ref 1] μ = am_ret none μ' ∧ ps_scC μ μ' ∧ ps_Ru S (ps_fxl S) μ' := by
  have s0 : ps_scC μ (am_up μ 42 2 (am_c 0)) := (ps_scC.rf μ).up rfl
  obtain ⟨μ', a1, a2, a3⟩ := w502_7 d hW hl S.n 0 [] (am_up μ 42 2 (am_c 0)) (s0.R hR) (s0.L hL) (by omega) ⟨by rw [am_upS]; rfl, fun r e hr => by simp at hr⟩ (Nat.le_refl _)
  rw [e502, q502_0, show am_ev (am_call (d + 4)) 502 7 [.ref 42, .ref 1, .int (am_c 0)] [] (am_up μ 42 2 (am_c 0)) = _ from a1]
  exact ⟨μ', rfl, s0.tr a2, a3⟩
theorem ps_drop_cons {L : List Nat} {r : Nat} (h : r < L.length) : L.drop r = L[r] :: L.drop (r + 1) := List.drop_eq_getElem_cons h
theorem w506 (d : Nat) {μ : am_Mem} {L : List Nat} (hL : ps_Ru S L μ) (hl : L.length ≤ 12) (hm : ∀ e, e ∈ L → S.hd e < 16 ∧ ps_us S e < 65536) {k : Nat} (hk : k < 65536) : am_call (d + 1) 506 [.ref 42, .int (nI k)] μ = am_ret (some (.int (nI (ps_gvl S k L 0)))) μ := by
  have lp : ∀ m r a, r + m = L.length → am_ev (am_call d) 506 4 [.ref 42, .int (nI k), .int (nI a), .int (nI r)] [] μ = am_ret (some (.int (nI (ps_gvl S k (L.drop r) a)))) μ := by
    intro m
    induction m with
    | zero =>
      intro r a hr
      have hr : r = L.length := hr
      subst hr
      rw [q506_4, hL.1, if_pos (by rw [am_leN (by omega) (by omega)]; omega), q506_40, List.drop_length]
      rfl
    | succ m ih =>
      intro r a hr
      have hlt : r < L.length := by omega
      obtain ⟨n1, n2⟩ := hL.2 r _ (List.getElem?_eq_getElem hlt)
      obtain ⟨m1, m2⟩ := hm _ (List.getElem_mem hlt)
      have hd : ps_dif (ps_us S L[r]) k < 2 ^ 16 := ps_dif_lt m2
      rw [q506_4, hL.1, if_neg (by rw [am_leN (by omega) (by omega)]; omega), am_ixN (by omega), am_gbI (by omega), n1, n2, am_andn, am_gbI (by omega), am_or, q506_34, q506_34, am_cN, nI_add, ps_drop_cons hlt, ps_gvl]
      by_cases hc : ps_dif (ps_us S L[r]) k = 0
      · rw [if_pos (by rw [am_eq0 (by omega)]; exact hc), if_pos hc]
        exact ih (r + 1) _ (by omega)
      · rw [if_neg (by rw [am_eq0 (by omega)]; exact hc), if_neg hc]
        exact ih (r + 1) _ (by omega)
  rw [e506, q506_0]
  exact lp L.length 0 0 (by omega)
theorem w505 (d : Nat) {L : List Nat} (hl : L.length ≤ 12) (hm : ∀ e, e ∈ L → S.hd e < 16 ∧ ps_us S e < 65536) : ∀ {μ : am_Mem} {k : Nat}, ps_Ru S L μ → k < 65536 → ∃ μ', am_call (d + 2) 505 [.ref 42, .int (nI k)] μ = am_ret none μ' ∧ ps_off [42] μ μ' ∧ μ' 42 6 = nI (ps_lrn S L L.length k 0).1 ∧ μ' 42 7 = nI (ps_lrn S L L.length k 0).2 := by
  have lp : ∀ m i k r (x1 : Int32) (x3 : Value) (μ : am_Mem), i + m = L.length → ps_Ru S L μ → k < 65536 → μ 42 6 = nI k → μ 42 7 = nI r → ∃ μ', am_ev (am_call (d + 1)) 505 12 [.ref 42, .int x1, .int (nI i), x3] [] μ = am_ret none μ' ∧ ps_off [42] μ μ' ∧ μ' 42 6 = nI (ps_lrn S L m k r).1 ∧ μ' 42 7 = nI (ps_lrn S L m k r).2 := by
    intro m
    induction m with
    | zero =>
      intro i k r x1 x3 μ hi hL hk h6 h7
      rw [q505_12, hL.1, if_pos (by rw [am_leN (by omega) (by omega)]; omega), q505_64]
      exact ⟨μ, rfl, ps_off.rf, h6, h7⟩
    | succ m ih =>
      intro i k r x1 x3 μ hi hL hk h6 h7
      have hf : ps_f S L k < 2 ^ 16 := ps_gvl_lt (fun e he => (hm e he).1) hk
      rw [q505_12, hL.1, if_neg (by rw [am_leN (by omega) (by omega)]; omega), h6, w506 d hL hl hm hk, am_bI_ret, h6, am_or, ps_f_or, ps_lrn]
      by_cases hc : ps_f S L k = k
      · rw [if_pos (by rw [hc]), if_pos hc]
        exact ⟨μ, rfl, ps_off.rf, h6, h7⟩
      · rw [if_neg (by rw [am_eqN (by omega) (by omega)]; exact hc), if_neg hc, q505_43, am_upI (by omega), h7, am_cN, nI_add, nI_add]
        obtain ⟨μ', b1, b2, b3⟩ := ih (i + 1) (ps_f S L k) (r + 1) x1 (.int (nI (ps_f S L k))) (am_up (am_up μ 42 6 (nI (ps_f S L k))) 42 7 (nI (r + 1))) (by omega) (hL.off (by rw [am_upI (by omega), am_upI (by omega)]) (by rw [am_up_ne (by omega), am_up_ne (by omega)]) (by rw [am_up_ne (by omega), am_up_ne (by omega)])) hf (by rw [am_upI (by omega), am_upS]) (by rw [am_upS])
        exact ⟨μ', b1, ((ps_off.rf.up (by decide)).up (by decide)).tr b2, b3⟩
  intro μ k hL hk
  rw [e505, q505_0]
  obtain ⟨μ', b1, b2, b3⟩ := lp L.length 0 k 0 (nI k) .null (am_up (am_up μ 42 6 (nI k)) 42 7 (am_c 0)) (by omega) (hL.off (by rw [am_upI (by omega), am_upI (by omega)]) (by rw [am_up_ne (by omega), am_up_ne (by omega)]) (by rw [am_up_ne (by omega), am_up_ne (by omega)])) hk (by rw [am_upI (by omega), am_upS]) (by rw [am_upS]; rfl)
  exact ⟨μ', b1, ((ps_off.rf.up (by decide)).up (by decide)).tr b2, b3⟩
theorem ps_fxl_mem (hW : ps_Wf S) : (ps_fxl S).length ≤ 12 ∧ ∀ e, e ∈ ps_fxl S → S.hd e < 16 ∧ ps_us S e < 65536 := by
  have n12 : S.n ≤ 12 := hW.2.2.2.2.2.2.1
  refine ⟨Nat.le_trans (List.length_filter_le _ _) (by rw [ps_rg_len]; exact n12), fun e he => ?_⟩
  have he := ps_rg_mem.mp (List.mem_filter.mp he).1
  obtain ⟨g1, g2, g3, g4, g5, g6, g7, g8, g9⟩ := hW.e (e := e) (by omega)
  exact ⟨by omega, g9⟩
end Ops23
def ps_learnt (O : ps_O) (x y : Int32) : Int32 := if am_ix x < 2 ^ O.S.w ∧ am_ix y ≤ 1 then (if am_ix y = 0 then nI (ps_lrn O.S (ps_fxl O.S) (ps_fxl O.S).length (am_ix x) 0).1 else nI (ps_lrn O.S (ps_fxl O.S) (ps_fxl O.S).length (am_ix x) 0).2) else am_c (-1)
theorem C_learnt (d : Nat) (O : ps_O) (hO : ps_Ow O) (x y : Int32) : ps_sC bG (d + 6) 916 [.ref 0, .int x, .int y] O (some (.int (ps_learnt O x y))) O := by
  intro μ h
  have hW := hO.1
  have hw16 : O.S.w ≤ 16 := hW.1
  have h2 : 2 ^ O.S.w ≤ 2 ^ 16 := Nat.pow_le_pow_right (by omega) hw16
  have e := am_rngB y (a := 0) (b := 1) (by omega) (by omega) (am_ret (some (.int (am_c (-1)))) μ) (am_ev (am_call (d + 5)) 916 22 [.ref 0, .int x, .int y] [] μ)
  rw [e916, q916_0, w704 (d + 4) h.1 hW, am_bI_ret, q916_20, show (if y < (0 : Int32) then am_ret (some (.int (am_c (-1)))) μ else if y ≤ am_c 1 then am_ev (am_call (d + 5)) 916 22 [.ref 0, .int x, .int y] [] μ else am_ret (some (.int (am_c (-1)))) μ) = _ from e, ps_learnt]
  by_cases hx : am_ix x < 2 ^ O.S.w
  · rw [decide_eq_true hx, if_neg (by decide)]
    by_cases hy : am_ix y ≤ 1
    · obtain ⟨μ1, a1, a2, a3⟩ := w502 d hW hO.2.1 h.1 h.2.1
      obtain ⟨m1, m2⟩ := ps_fxl_mem hW
      obtain ⟨a, ha, rfl⟩ : ∃ a, a < 2 ^ O.S.w ∧ x = nI a := ⟨am_ix x, hx, (am_nIx x).symm⟩
      obtain ⟨μ2, b1, b2, b3, b4⟩ := w505 (d + 3) m1 m2 (k := a) a3 (by omega)
      have sc : ps_scC μ μ2 := a2.tr (ps_scC.of b2 rfl)
      rw [if_pos ⟨Nat.zero_le _, hy⟩, if_pos ⟨by rw [am_ixN (by omega)]; exact ha, hy⟩, q916_22, a1, am_bV_ret, b1, am_bV_ret, q916_55, q916_62, q916_62, b3, b4, am_ixN (by omega)]
      refine ⟨μ2, ?_, sc.I h, sc.k⟩
      obtain ⟨k, hk, rfl⟩ := am_le_ix (by omega) hy
      rw [am_ixN (by omega)]
      rcases (show k = 0 ∨ k = 1 by omega) with rfl | rfl
      · rfl
      · rfl
    · rw [if_neg (fun z => hy z.2), if_neg (fun z => hy z.2)]
      exact ⟨μ, rfl, h, ps_kC.rf⟩
  · rw [decide_eq_false hx, if_pos (by decide), if_neg (fun z => hx z.1)]
    exact ⟨μ, rfl, h, ps_kC.rf⟩
section Ops23b
variable {S : ps_S}
theorem v1060_19 (d : Nat) (hW : ps_Wf S) {μ : am_Mem} (hR : ps_Rm 57 S μ) (h6 : ∀ j, j < S.n → μ 66 j = nI (ps_us S j) ∧ μ 67 j = nI (ps_fxe S j).toNat) (x1 : Int32) {was : Nat} : ∀ k e a, e + k = S.n → am_ev (am_call (d + 1)) 1060 19 [.ref 56, .int x1, .int (nI a), .int (nI was), .int (nI e)] [] μ = am_ev (am_call (d + 1)) 1060 72 [.ref 56, .int x1, .int (nI (ps_gvl S was ((ps_rg k e).filter (ps_fxe S)) a)), .int (nI was), .int (nI S.n)] [] μ := by
  have n12 : S.n ≤ 12 := hW.2.2.2.2.2.2.1
  have r8 : μ 57 1 = nI S.n := hR.2.2.2.2.2.2.2.1
  intro k
  induction k with
  | zero =>
    intro e a he
    have he : e = S.n := he
    subst he
    rw [q1060_19, r8, if_pos (by rw [am_leN (by omega) (by omega)]; omega)]
    rfl
  | succ k ih =>
    intro e a he
    obtain ⟨g1, g2, g3, g4, g5, g6, g7, g8, g9⟩ := hW.e (e := e) (by omega)
    have r9 : μ 57 (45 + 5 * e + 0) = nI (S.hd e) := hR.2.2.2.2.2.2.2.2.1 e (by omega)
    have hd : ps_dif (ps_us S e) was < 2 ^ 16 := ps_dif_lt g9
    rw [q1060_19, r8, if_neg (by rw [am_leN (by omega) (by omega)]; omega), am_ixN (by omega), am_gbI (by omega), (h6 e (by omega)).2, am_gbI (by omega), (h6 e (by omega)).1, am_andn, show am_c 0 = nI 0 from rfl, m1005 d (by omega), am_bI_ret, r9, show am_c 1 = nI 1 from rfl, am_shl1 (by omega), am_or, q1060_66, q1060_66, show am_c 1 = nI 1 from rfl, nI_add, ps_rg]
    cases hb : ps_fxe S e with
    | false =>
      rw [if_pos (by decide), List.filter_cons_of_neg (by simp [hb])]
      exact ih (e + 1) a (by omega)
    | true =>
      rw [if_neg (by decide), List.filter_cons_of_pos hb, ps_gvl]
      by_cases hc : ps_dif (ps_us S e) was = 0
      · rw [if_pos (by rw [am_eq0 (by omega)]; exact hc), if_pos hc]
        exact ih (e + 1) _ (by omega)
      · rw [if_neg (by rw [am_eq0 (by omega)]; exact hc), if_neg hc]
        exact ih (e + 1) _ (by omega)
theorem v1060_o (d : Nat) (hW : ps_Wf S) (x1 : Int32) : ∀ j k r (μ : am_Mem), ps_Rm 57 S μ → (∀ j, j < S.n → μ 66 j = nI (ps_us S j) ∧ μ 67 j = nI (ps_fxe S j).toNat) → k < 65536 → ps_ms S (ps_fxl S) k ≤ j → μ 56 26 + am_c 1 = nI r → ∃ μ', am_ev (am_call (d + 1)) 1060 19 [.ref 56, .int x1, .int (nI k), .int (nI k), .int (am_c 0)] [] μ = am_ret (some (.int (nI (ps_lrn S (ps_fxl S) j k r).1))) μ' ∧ (∀ K, K ≠ 56 → μ' K = μ K) ∧ (∀ i, i ≠ 26 → μ' 56 i = μ 56 i) ∧ μ' 56 26 = nI (ps_lrn S (ps_fxl S) j k r).2 := by
  have hm := ps_fxl_mem hW
  intro j
  induction j with
  | zero =>
    intro k r μ hR h6 hk hms h26
    have hf : ps_f S (ps_fxl S) k = k := Classical.byContradiction (fun hc => by
      have := ps_ms_lt hc
      omega)
    rw [show am_c 0 = nI 0 from rfl, v1060_19 d hW hR h6 x1 S.n 0 k (by omega), q1060_72, h26, show ps_gvl S k ((ps_rg S.n 0).filter (ps_fxe S)) k = k from hf, q1060_9, if_pos rfl, q1060_85]
    exact ⟨_, rfl, fun K hK => by rw [am_up_ne hK], fun i hi => by rw [am_upI hi], by rw [am_upS]; rfl⟩
  | succ j ih =>
    intro k r μ hR h6 hk hms h26
    have hlt : ps_f S (ps_fxl S) k < 2 ^ 16 := ps_gvl_lt (fun e he => (hm.2 e he).1) hk
    rw [show am_c 0 = nI 0 from rfl, v1060_19 d hW hR h6 x1 S.n 0 k (by omega), q1060_72, h26, show ps_gvl S k ((ps_rg S.n 0).filter (ps_fxe S)) k = ps_f S (ps_fxl S) k from rfl, q1060_9, ps_lrn]
    by_cases hc : ps_f S (ps_fxl S) k = k
    · rw [if_pos (by rw [hc]), if_pos hc, q1060_85, hc]
      exact ⟨_, rfl, fun K hK => by rw [am_up_ne hK], fun i hi => by rw [am_upI hi], by rw [am_upS]⟩
    · have hms' := ps_ms_lt hc
      rw [if_neg (by rw [am_eqN (by omega) (by omega)]; exact fun z => hc z.symm), if_neg hc]
      obtain ⟨μ', b1, b2, b3, b4⟩ := ih (ps_f S (ps_fxl S) k) (r + 1) (am_up μ 56 26 (nI r)) (hR.off (by rw [am_up_ne (by omega)])) (fun j hj => by rw [am_upK (by omega), am_upK (by omega)]; exact h6 j hj) hlt (by omega) (by rw [am_upS, am_cN, nI_add])
      rw [b1]
      exact ⟨μ', rfl, fun K hK => by rw [b2 K hK, am_up_ne hK], fun i hi => by rw [b3 i hi, am_upI hi], b4⟩
theorem v1060 (d : Nat) (hW : ps_Wf S) {μ : am_Mem} (hR : ps_Rm 57 S μ) (h6 : ∀ j, j < S.n → μ 66 j = nI (ps_us S j) ∧ μ 67 j = nI (ps_fxe S j).toNat) {k : Nat} (hk : k < 65536) : ∃ μ', am_call (d + 2) 1060 [.ref 56, .int (nI k)] μ = am_ret (some (.int (nI (ps_lrn S (ps_fxl S) (ps_fxl S).length k 0).1))) μ' ∧ (∀ K, K ≠ 56 → μ' K = μ K) ∧ (∀ i, i ≠ 26 → μ' 56 i = μ 56 i) ∧ μ' 56 26 = nI (ps_lrn S (ps_fxl S) (ps_fxl S).length k 0).2 := by
  rw [e1060, q1060_0, q1060_9, if_neg (fun z => nI_m1 (show k < 2147483648 by omega) z.symm)]
  obtain ⟨μ', b1, b2, b3, b4⟩ := v1060_o d hW (nI k) (ps_fxl S).length k 0 (am_up μ 56 26 (am_c (-1))) (hR.off (by rw [am_up_ne (by omega)])) (fun j hj => by rw [am_upK (by omega), am_upK (by omega)]; exact h6 j hj) hk (ps_ms_le S _ k) (by rw [am_upS]; decide)
  rw [b1]
  exact ⟨μ', rfl, fun K hK => by rw [b2 K hK, am_up_ne hK], fun i hi => by rw [b3 i hi, am_upI hi], b4⟩
end Ops23b
theorem M_learnt (d : Nat) (O : ps_O) (hO : ps_Ow O) (x y : Int32) : ps_sM (d + 6) 1061 [.ref 56, .int x, .int y] O (some (.int (ps_learnt O x y))) O := by
  intro μ h
  have hW := hO.1
  have hw16 : O.S.w ≤ 16 := hW.1
  have h2 : 2 ^ O.S.w ≤ 2 ^ 16 := Nat.pow_le_pow_right (by omega) hw16
  rw [e1061, q1061_0, m1004 (d + 3) h.1.1 hw16, am_bI_ret, show am_c 0 = nI 0 from rfl, show am_c 1 = nI 1 from rfl, m1001c (d + 4) y (by omega) (by omega), am_bI_ret, q1061_17, ps_learnt]
  by_cases hx : am_ix x < 2 ^ O.S.w
  · rw [decide_eq_true hx, if_neg (by decide)]
    by_cases hy : am_ix y ≤ 1
    · obtain ⟨μ1, a1, a2, a3⟩ := v1059 d hW hO.2.1 h.1 h.2.1
      have s1 : ps_scM μ μ1 := ps_scM.of a2 rfl
      obtain ⟨a, ha, rfl⟩ : ∃ a, a < 2 ^ O.S.w ∧ x = nI a := ⟨am_ix x, hx, (am_nIx x).symm⟩
      obtain ⟨μ2, b1, b2, b3, b4⟩ := v1060 (d + 3) hW (s1.R h.1) a3 (k := a) (by omega)
      have sc : ps_scM μ μ2 := s1.tr ⟨fun K hK => b2 K (by omega), fun i hi => b3 i (by omega)⟩
      rw [decide_eq_true ⟨Nat.zero_le _, hy⟩, if_neg (by decide), if_pos ⟨by rw [am_ixN (by omega)]; exact ha, hy⟩, q1061_19, a1, am_bV_ret, b1, am_bI_ret, q1061_37, q1061_41, q1061_41, b4, am_ixN (by omega)]
      refine ⟨μ2, ?_, sc.I h, sc.k⟩
      obtain ⟨k, hk, rfl⟩ := am_le_ix (by omega) hy
      rw [am_ixN (by omega)]
      rcases (show k = 0 ∨ k = 1 by omega) with rfl | rfl
      · rfl
      · rfl
    · rw [decide_eq_false (fun z => hy z.2), if_pos (by decide), if_neg (fun z => hy z.2)]
      exact ⟨μ, rfl, h, ps_kM.rf⟩
  · rw [decide_eq_false hx, if_pos (by decide), if_neg (fun z => hx z.1)]
    exact ⟨μ, rfl, h, ps_kM.rf⟩
