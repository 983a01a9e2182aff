/-! the law's text: a pure reader -/
abbrev ps_C : Type := List (Nat × Nat)
abbrev ps_R : Type := Sum (Nat × Nat) (List ps_K × ps_C)
def ps_hk (T : List ps_K) : ps_K := T.headD (0, 0, 0)
def ps_bnd (r : ps_R) (f : List ps_K → ps_C → ps_R) : ps_R := match r with
  | .inl e => .inl e
  | .inr q => f q.1 q.2
def ps_pU (T : List ps_K) : ps_R := if (ps_hk T).1 = 2 then .inr (T.tail, [(0, (ps_hk T).2.2)]) else if 9 ≤ (ps_hk T).1 ∧ (ps_hk T).1 ≤ 14 then .inr (T.tail, [((ps_hk T).1 - 8, 0)]) else .inl (1, (ps_hk T).2.1)
/-- what follows a sign of a product -/
def ps_pF (T : List ps_K) : ps_R := if (ps_hk T).1 = 18 then ps_bnd (ps_pU T.tail) (fun R c => .inr (R, c ++ [(15, 0)])) else if (ps_hk T.tail).1 = 2 then (if (ps_hk T.tail).2.2 = 0 then .inl (2, (ps_hk T.tail).2.1) else .inr (T.tail.tail, [(16, (ps_hk T.tail).2.2)])) else .inl (1, (ps_hk T.tail).2.1)
def ps_pPl : Nat → List ps_K → ps_C → ps_R
  | 0, T, a => .inr (T, a)
  | n + 1, T, a => if (ps_hk T).1 = 18 ∨ (ps_hk T).1 = 19 then ps_bnd (ps_pF T) (fun R c => ps_pPl n R (a ++ c)) else .inr (T, a)
def ps_pP (T : List ps_K) : ps_R := ps_bnd (ps_pU T) (fun R c => ps_pPl R.length R c)
def ps_lpl (B : List ps_K → ps_R) (op : Nat → Nat) : Nat → List ps_K → ps_C → ps_R
  | 0, T, a => .inr (T, a)
  | n + 1, T, a => if op (ps_hk T).1 = 0 then .inr (T, a) else ps_bnd (B T.tail) (fun R c => ps_lpl B op n R (a ++ c ++ [(op (ps_hk T).1, 0)]))
def ps_lp (B : List ps_K → ps_R) (op : Nat → Nat) (T : List ps_K) : ps_R := ps_bnd (B T) (fun R c => ps_lpl B op R.length R c)
def ps_opS (k : Nat) : Nat := if k = 16 then 13 else if k = 17 then 14 else 0
def ps_opA (k : Nat) : Nat := if k = 7 then 21 else 0
def ps_opO (k : Nat) : Nat := if k = 6 then 22 else 0
def ps_opC (k : Nat) : Nat := if k = 22 then 17 else if k = 23 then 18 else if k = 24 then 19 else 0
def ps_pS (T : List ps_K) : ps_R := ps_lp ps_pP ps_opS T
def ps_pC (T : List ps_K) : ps_R := ps_bnd (ps_pS T) (fun R c => if ps_opC (ps_hk R).1 = 0 then .inl (1, (ps_hk R).2.1) else ps_bnd (ps_pS R.tail) (fun R' c' => .inr (R', c ++ c' ++ [(ps_opC (ps_hk R).1, 0)])))
def ps_pX : Nat → List ps_K → ps_R
  | 0, T => if (ps_hk T).1 = 8 ∨ (ps_hk T).1 = 20 then .inl (3, (ps_hk T).2.1) else ps_pC T
  | k + 1, T => if (ps_hk T).1 = 8 then ps_bnd (ps_pX k T.tail) (fun R c => .inr (R, c ++ [(20, 0)])) else if (ps_hk T).1 = 20 then ps_bnd (ps_lp (ps_lp (ps_pX k) ps_opA) ps_opO T.tail) (fun R c => if (ps_hk R).1 = 21 then .inr (R.tail, c) else .inl (1, (ps_hk R).2.1)) else ps_pC T
def ps_pE (k : Nat) (T : List ps_K) : ps_R := ps_lp (ps_pX k) ps_opA T
def ps_pA (k : Nat) (T : List ps_K) : ps_R := ps_lp (ps_pE k) ps_opO T
/-- what stands behind "fix" or "loose", up to the semicolon -/
def ps_pB (T : List ps_K) : ps_R := if (ps_hk T).1 = 5 then ps_pA 8 T.tail else .inr (T, [])
def ps_pL (T : List ps_K) : ps_R := ps_bnd (ps_pB T.tail) (fun R c => if (ps_hk R).1 = 15 then .inr (R.tail, c) else .inl (1, (ps_hk R).2.1))
def ps_pT : Nat → List ps_K → List (Bool × ps_C) → Sum (Nat × Nat) (List (Bool × ps_C))
  | 0, T, a => if (ps_hk T).1 = 0 then .inr a else if (ps_hk T).1 = 3 ∨ (ps_hk T).1 = 4 then .inl (3, (ps_hk T).2.1) else .inl (1, (ps_hk T).2.1)
  | n + 1, T, a => if (ps_hk T).1 = 0 then .inr a else if (ps_hk T).1 = 3 ∨ (ps_hk T).1 = 4 then (match ps_pL T with
      | .inl e => .inl e
      | .inr q => ps_pT n q.1 (a ++ [(decide ((ps_hk T).1 = 3), q.2)])) else .inl (1, (ps_hk T).2.1)
/-- tokens that end with the end -/
def ps_ge : List ps_K → Prop
  | [] => False
  | q :: R => q.1 ≤ 24 ∧ (q.1 = 2 → q.2.2 ≤ 9999) ∧ ((q.1 = 0 ∧ R = []) ∨ (q.1 ≠ 0 ∧ ps_ge R))
theorem ps_ge.tail {T : List ps_K} (h : ps_ge T) (h0 : (ps_hk T).1 ≠ 0) : ps_ge T.tail ∧ T.length = T.tail.length + 1 := by
  cases T with
  | nil => exact absurd h (by simp [ps_ge])
  | cons q R =>
    rcases h.2.2 with h1 | h1
    · exact absurd h1.1 h0
    · exact ⟨h1.2, rfl⟩
theorem ps_ge.hd {T : List ps_K} (h : ps_ge T) : (ps_hk T).1 ≤ 24 ∧ ((ps_hk T).1 = 2 → (ps_hk T).2.2 ≤ 9999) ∧ 1 ≤ T.length := by
  cases T with
  | nil => exact absurd h (by simp [ps_ge])
  | cons q R => exact ⟨h.1, h.2.1, by simp⟩
/-- a number on the pile: of so many places more -/
def ps_tn (b : Bool) (m : Nat) (c : ps_C) : Prop := ∀ (K : ps_C) (ts : List Bool), ts.length + m ≤ 30 → ps_ty K (b :: ts) → ps_ty (c ++ K) ts
/-- what a reader gives: good tokens behind, so long a code, and its type -/
def ps_gd' (T : List ps_K) (b : Bool) (m : Nat) (r : ps_R) : Prop := match r with
  | .inl _ => True
  | .inr q => ps_ge q.1 ∧ (ps_encs q.2).length + q.1.length ≤ T.length ∧ q.2.length + q.1.length ≤ T.length ∧ q.1.length < T.length ∧ ps_tn b m q.2
theorem ps_encs_app (a b : ps_C) : ps_encs (a ++ b) = ps_encs a ++ ps_encs b := by rw [ps_encs, ps_encs, ps_encs, List.flatMap_append]
theorem ps_enc_len (q : Nat × Nat) : (ps_enc q).length = if q.1 = 16 then 2 else 1 := by
  unfold ps_enc
  by_cases h0 : q.1 = 0
  · rw [if_pos h0, if_neg (by omega)]; rfl
  · rw [if_neg h0]
    split <;> rfl
theorem ps_gd'.mk {T R : List ps_K} {c : ps_C} {b : Bool} {m : Nat} (h1 : ps_ge R) (h2 : (ps_encs c).length + R.length ≤ T.length) (h3 : c.length + R.length ≤ T.length) (h4 : R.length < T.length) (h5 : ps_tn b m c) : ps_gd' T b m (.inr (R, c)) := ⟨h1, h2, h3, h4, h5⟩
theorem ps_enc1 (k v : Nat) (h : k ≠ 16) : (ps_encs [(k, v)]).length = 1 := by
  rw [ps_encs, List.flatMap_cons, List.flatMap_nil, List.append_nil, ps_enc_len]
  exact if_neg h
theorem ps_pU_ok {T : List ps_K} (h : ps_ge T) : ps_gd' T false 1 (ps_pU T) := by
  obtain ⟨h1, h2, h3⟩ := h.hd
  unfold ps_pU
  by_cases c1 : (ps_hk T).1 = 2
  · obtain ⟨t1, t2⟩ := h.tail (by omega)
    rw [if_pos c1]
    refine ps_gd'.mk t1 (by rw [ps_enc1 _ _ (by decide)]; omega) (by rw [List.length_singleton]; omega) (by omega) (fun K ts hts hK => ?_)
    exact Or.inl ⟨Nat.zero_le _, h2 c1, by omega, hK⟩
  · rw [if_neg c1]
    by_cases c2 : 9 ≤ (ps_hk T).1 ∧ (ps_hk T).1 ≤ 14
    · obtain ⟨t1, t2⟩ := h.tail (by omega)
      rw [if_pos c2]
      refine ps_gd'.mk t1 (by rw [ps_enc1 _ _ (by omega)]; omega) (by rw [List.length_singleton]; omega) (by omega) (fun K ts hts hK => ?_)
      exact Or.inl ⟨by show (ps_hk T).1 - 8 ≤ 6; omega, Nat.zero_le _, by omega, hK⟩
    · rw [if_neg c2]
      trivial
/-- going on behind a reader -/
theorem ps_gd'.bnd {T : List ps_K} {b b' : Bool} {m m' : Nat} {r : ps_R} {f : List ps_K → ps_C → ps_R} (h : ps_gd' T b m r) (hf : ∀ R c, ps_ge R → (ps_encs c).length + R.length ≤ T.length → c.length + R.length ≤ T.length → R.length < T.length → ps_tn b m c → ps_gd' T b' m' (f R c)) : ps_gd' T b' m' (ps_bnd r f) := by
  cases r with
  | inl e => trivial
  | inr q => exact hf q.1 q.2 h.1 h.2.1 h.2.2.1 h.2.2.2.1 h.2.2.2.2
theorem ps_tn.mono {b : Bool} {m m' : Nat} {c : ps_C} (h : ps_tn b m c) (hm : m ≤ m') : ps_tn b m' c := fun K ts hts hK => h K ts (by omega) hK
/-- two of a kind, and a sign that joins them -/
theorem ps_tn.two {b b' : Bool} {m m' : Nat} {a c : ps_C} {k : Nat} (ha : ps_tn b m' a) (hc : ps_tn b m c) (hm : m + 1 ≤ m') (hop : ∀ K r, ps_ty K (b' :: r) → ps_ty ((k, 0) :: K) (b :: b :: r)) : ps_tn b' m' (a ++ c ++ [(k, 0)]) := fun K ts hts hK => by
  rw [List.append_assoc, List.append_assoc]
  refine ha _ ts hts (hc _ (b :: ts) (by rw [List.length_cons]; omega) ?_)
  exact hop K ts hK
theorem ps_lpl_ok {B : List ps_K → ps_R} {op : Nat → Nat} {b : Bool} {m : Nat} {T0 : List ps_K} (hB : ∀ T, ps_ge T → ps_gd' T b m (B T)) (ho0 : op 0 = 0) (h16 : ∀ k, op k ≠ 16) (hop : ∀ k, op k ≠ 0 → ∀ K r, ps_ty K (b :: r) → ps_ty ((op k, 0) :: K) (b :: b :: r)) : ∀ (n : Nat) (T : List ps_K) (a : ps_C), ps_ge T → (ps_encs a).length + T.length ≤ T0.length → a.length + T.length ≤ T0.length → T.length < T0.length → ps_tn b (m + 1) a → ps_gd' T0 b (m + 1) (ps_lpl B op n T a)
  | 0, T, a, h1, h2, h3, h4, h5 => ps_gd'.mk h1 h2 h3 h4 h5
  | n + 1, T, a, h1, h2, h3, h4, h5 => by
    rw [ps_lpl]
    by_cases hc : op (ps_hk T).1 = 0
    · rw [if_pos hc]
      exact ps_gd'.mk h1 h2 h3 h4 h5
    · rw [if_neg hc]
      obtain ⟨t1, t2⟩ := h1.tail (fun e => hc (by rw [e]; exact ho0))
      have hb := hB T.tail t1
      cases hr : B T.tail with
      | inl e => trivial
      | inr q =>
        rw [hr] at hb
        obtain ⟨g1, g2, g3, g4, g5⟩ := hb
        refine ps_lpl_ok hB ho0 h16 hop n q.1 _ g1 ?_ ?_ (by omega) (h5.two g5 (Nat.le_refl _) (hop _ hc))
        · rw [ps_encs_app, ps_encs_app, List.length_append, List.length_append, ps_enc1 _ _ (h16 _)]
          omega
        · rw [List.length_append, List.length_append, List.length_singleton]
          omega
theorem ps_lp_ok {B : List ps_K → ps_R} {op : Nat → Nat} {b : Bool} {m : Nat} (hB : ∀ T, ps_ge T → ps_gd' T b m (B T)) (ho0 : op 0 = 0) (h16 : ∀ k, op k ≠ 16) (hop : ∀ k, op k ≠ 0 → ∀ K r, ps_ty K (b :: r) → ps_ty ((op k, 0) :: K) (b :: b :: r)) {T : List ps_K} (h : ps_ge T) : ps_gd' T b (m + 1) (ps_lp B op T) :=
  (hB T h).bnd (fun R c h1 h2 h3 h4 h5 => ps_lpl_ok hB ho0 h16 hop R.length R c h1 h2 h3 h4 (h5.mono (by omega)))
theorem ps_pPl_ok {T0 : List ps_K} : ∀ (n : Nat) (T : List ps_K) (a : ps_C), ps_ge T → (ps_encs a).length + T.length ≤ T0.length → a.length + T.length ≤ T0.length → T.length < T0.length → ps_tn false 2 a → ps_gd' T0 false 2 (ps_pPl n T a)
  | 0, T, a, h1, h2, h3, h4, h5 => ps_gd'.mk h1 h2 h3 h4 h5
  | n + 1, T, a, h1, h2, h3, h4, h5 => by
    rw [ps_pPl]
    by_cases hc : (ps_hk T).1 = 18 ∨ (ps_hk T).1 = 19
    · rw [if_pos hc]
      obtain ⟨t1, t2⟩ := h1.tail (by omega)
      unfold ps_pF
      by_cases h18 : (ps_hk T).1 = 18
      · rw [if_pos h18]
        have hb := ps_pU_ok t1
        cases hr : ps_pU T.tail with
        | inl e => trivial
        | inr q =>
          rw [hr] at hb
          obtain ⟨g1, g2, g3, g4, g5⟩ := hb
          refine ps_pPl_ok n q.1 (a ++ (q.2 ++ [(15, 0)])) g1 ?_ ?_ (by omega) ?_
          · rw [ps_encs_app, ps_encs_app, List.length_append, List.length_append, ps_enc1 _ _ (by decide)]
            omega
          · rw [List.length_append, List.length_append, List.length_singleton]
            omega
          · rw [← List.append_assoc]
            exact h5.two g5 (Nat.le_refl _) (fun K r hK => Or.inr (Or.inr (Or.inr (Or.inl ⟨Or.inr (Or.inr rfl), r, rfl, hK⟩))))
      · rw [if_neg h18]
        obtain ⟨u1, u2, u3⟩ := t1.hd
        by_cases hn : (ps_hk T.tail).1 = 2
        · rw [if_pos hn]
          by_cases hz : (ps_hk T.tail).2.2 = 0
          · rw [if_pos hz]; trivial
          · rw [if_neg hz]
            obtain ⟨v1, v2⟩ := t1.tail (by omega)
            have he : (ps_encs [(16, (ps_hk T.tail).2.2)]).length = 2 := rfl
            refine ps_pPl_ok n T.tail.tail (a ++ [(16, (ps_hk T.tail).2.2)]) v1 ?_ ?_ (by omega) (fun K ts hts hK => ?_)
            · rw [ps_encs_app, List.length_append, he]
              omega
            · rw [List.length_append, List.length_singleton]
              omega
            · rw [List.append_assoc]
              refine h5 _ ts hts (Or.inr (Or.inl ⟨rfl, by show 1 ≤ (ps_hk T.tail).2.2; omega, u2 hn, by rw [List.length_cons]; omega, ts, rfl, hK⟩))
        · rw [if_neg hn]; trivial
    · rw [if_neg hc]
      exact ps_gd'.mk h1 h2 h3 h4 h5
theorem ps_pP_ok {T : List ps_K} (h : ps_ge T) : ps_gd' T false 2 (ps_pP T) := (ps_pU_ok h).bnd (fun R c h1 h2 h3 h4 h5 => ps_pPl_ok R.length R c h1 h2 h3 h4 (h5.mono (by omega)))
theorem ps_pS_ok {T : List ps_K} (h : ps_ge T) : ps_gd' T false 3 (ps_pS T) := by
  refine ps_lp_ok (fun T hT => ps_pP_ok hT) rfl (fun k => ?_) (fun k hk K r hK => ?_) h
  · unfold ps_opS; split; decide; split <;> decide
  · refine Or.inr (Or.inr (Or.inr (Or.inl ⟨?_, r, rfl, hK⟩)))
    show ps_opS k = 13 ∨ ps_opS k = 14 ∨ ps_opS k = 15
    unfold ps_opS at hk ⊢
    split
    · exact Or.inl rfl
    · rename_i h1
      rw [if_neg h1] at hk
      split
      · exact Or.inr (Or.inl rfl)
      · rename_i h2
        rw [if_neg h2] at hk
        exact absurd rfl hk
theorem ps_pC_ok {T : List ps_K} (h : ps_ge T) : ps_gd' T true 4 (ps_pC T) := by
  refine (ps_pS_ok h).bnd (fun R c h1 h2 h3 h4 h5 => ?_)
  by_cases hc : ps_opC (ps_hk R).1 = 0
  · rw [if_pos hc]; trivial
  · rw [if_neg hc]
    have hop : ps_opC (ps_hk R).1 = 17 ∨ ps_opC (ps_hk R).1 = 18 ∨ ps_opC (ps_hk R).1 = 19 := by
      unfold ps_opC at hc ⊢
      split
      · exact Or.inl rfl
      · rename_i e1
        rw [if_neg e1] at hc
        split
        · exact Or.inr (Or.inl rfl)
        · rename_i e2
          rw [if_neg e2] at hc
          split
          · exact Or.inr (Or.inr rfl)
          · rename_i e3
            rw [if_neg e3] at hc
            exact absurd rfl hc
    obtain ⟨t1, t2⟩ := h1.tail (fun e => hc (by rw [e]; rfl))
    have hb := ps_pS_ok t1
    cases hr : ps_pS R.tail with
    | inl e => trivial
    | inr q =>
      rw [hr] at hb
      obtain ⟨g1, g2, g3, g4, g5⟩ := hb
      refine ps_gd'.mk g1 ?_ ?_ (by omega) ((h5.mono (show 3 ≤ 4 by omega)).two g5 (Nat.le_refl _) (fun K r hK => Or.inr (Or.inr (Or.inr (Or.inr (Or.inl ⟨hop, r, rfl, hK⟩))))))
      · rw [ps_encs_app, ps_encs_app, List.length_append, List.length_append, ps_enc1 _ _ (by omega)]
        omega
      · rw [List.length_append, List.length_append, List.length_singleton]
        omega
theorem ps_opA_ok : ∀ k, ps_opA k ≠ 16 ∧ (ps_opA k ≠ 0 → ∀ K r, ps_ty K (true :: r) → ps_ty ((ps_opA k, 0) :: K) (true :: true :: r)) := fun k => by
  unfold ps_opA
  split
  · exact ⟨by decide, fun _ K r hK => Or.inr (Or.inr (Or.inr (Or.inr (Or.inr ⟨Or.inl rfl, r, rfl, hK⟩))))⟩
  · exact ⟨by decide, fun h => absurd rfl h⟩
theorem ps_opO_ok : ∀ k, ps_opO k ≠ 16 ∧ (ps_opO k ≠ 0 → ∀ K r, ps_ty K (true :: r) → ps_ty ((ps_opO k, 0) :: K) (true :: true :: r)) := fun k => by
  unfold ps_opO
  split
  · exact ⟨by decide, fun _ K r hK => Or.inr (Or.inr (Or.inr (Or.inr (Or.inr ⟨Or.inr rfl, r, rfl, hK⟩))))⟩
  · exact ⟨by decide, fun h => absurd rfl h⟩
theorem ps_pX_ok : ∀ (k : Nat) {T : List ps_K}, ps_ge T → ps_gd' T true (4 + 2 * k) (ps_pX k T)
  | 0, T, h => by
    rw [ps_pX]
    split
    · trivial
    · exact ps_pC_ok h
  | k + 1, T, h => by
    rw [ps_pX]
    by_cases c1 : (ps_hk T).1 = 8
    · rw [if_pos c1]
      obtain ⟨t1, t2⟩ := h.tail (by omega)
      have hb := ps_pX_ok k t1
      cases hr : ps_pX k T.tail with
      | inl e => trivial
      | inr q =>
        rw [hr] at hb
        obtain ⟨g1, g2, g3, g4, g5⟩ := hb
        refine ps_gd'.mk g1 ?_ ?_ (by omega) (fun K ts hts hK => ?_)
        · rw [ps_encs_app, List.length_append, ps_enc1 _ _ (by decide)]
          omega
        · rw [List.length_append, List.length_singleton]
          omega
        · rw [List.append_assoc]
          exact g5 _ ts (by omega) (Or.inr (Or.inr (Or.inl ⟨rfl, ts, rfl, hK⟩)))
    · rw [if_neg c1]
      by_cases c2 : (ps_hk T).1 = 20
      · rw [if_pos c2]
        obtain ⟨t1, t2⟩ := h.tail (by omega)
        have hb : ps_gd' T.tail true (4 + 2 * k + 1 + 1) (ps_lp (ps_lp (ps_pX k) ps_opA) ps_opO T.tail) := ps_lp_ok (fun T hT => ps_lp_ok (fun T hT => ps_pX_ok k hT) rfl (fun j => (ps_opA_ok j).1) (fun j => (ps_opA_ok j).2) hT) rfl (fun j => (ps_opO_ok j).1) (fun j => (ps_opO_ok j).2) t1
        cases hr : ps_lp (ps_lp (ps_pX k) ps_opA) ps_opO T.tail with
        | inl e => trivial
        | inr q =>
          rw [hr] at hb
          obtain ⟨g1, g2, g3, g4, g5⟩ := hb
          show ps_gd' T true (4 + 2 * (k + 1)) (if (ps_hk q.1).1 = 21 then .inr (q.1.tail, q.2) else .inl (1, (ps_hk q.1).2.1))
          by_cases c3 : (ps_hk q.1).1 = 21
          · rw [if_pos c3]
            obtain ⟨v1, v2⟩ := g1.tail (by omega)
            exact ps_gd'.mk v1 (by omega) (by omega) (by omega) (g5.mono (by omega))
          · rw [if_neg c3]; trivial
      · rw [if_neg c2]
        have := ps_pC_ok h
        cases hr : ps_pC T with
        | inl e => trivial
        | inr q =>
          rw [hr] at this
          obtain ⟨g1, g2, g3, g4, g5⟩ := this
          exact ⟨g1, g2, g3, g4, g5.mono (by omega)⟩
theorem ps_pE_ok (k : Nat) {T : List ps_K} (h : ps_ge T) : ps_gd' T true (5 + 2 * k) (ps_pE k T) := by
  have := ps_lp_ok (fun T hT => ps_pX_ok k hT) rfl (fun j => (ps_opA_ok j).1) (fun j => (ps_opA_ok j).2) h
  rw [show 4 + 2 * k + 1 = 5 + 2 * k by omega] at this
  exact this
theorem ps_pA_ok (k : Nat) {T : List ps_K} (h : ps_ge T) : ps_gd' T true (6 + 2 * k) (ps_pA k T) := by
  have := ps_lp_ok (fun T hT => ps_pE_ok k hT) rfl (fun j => (ps_opO_ok j).1) (fun j => (ps_opO_ok j).2) h
  rw [show 5 + 2 * k + 1 = 6 + 2 * k by omega] at this
  exact this
/-- a line: what it gives -/
theorem ps_pL_ok {T R : List ps_K} {c : ps_C} (h : ps_ge T) (h0 : (ps_hk T).1 ≠ 0) (hr : ps_pL T = .inr (R, c)) : ps_ge R ∧ (ps_encs c).length + R.length + 2 ≤ T.length ∧ c.length + R.length + 2 ≤ T.length ∧ (c = [] ∨ ps_ty c []) := by
  obtain ⟨t1, t2⟩ := h.tail h0
  unfold ps_pL ps_pB at hr
  by_cases h5 : (ps_hk T.tail).1 = 5
  · rw [if_pos h5] at hr
    obtain ⟨v1, v2⟩ := t1.tail (by omega)
    have hb := ps_pA_ok 8 v1
    cases hq : ps_pA 8 T.tail.tail with
    | inl e => rw [hq] at hr; exact absurd hr (by simp [ps_bnd])
    | inr q =>
      rw [hq] at hr hb
      obtain ⟨g1, g2, g3, g4, g5⟩ := hb
      have hr : (if (ps_hk q.1).1 = 15 then (Sum.inr (q.1.tail, q.2) : ps_R) else .inl (1, (ps_hk q.1).2.1)) = .inr (R, c) := hr
      by_cases h15 : (ps_hk q.1).1 = 15
      · rw [if_pos h15] at hr
        cases hr
        obtain ⟨w1, w2⟩ := g1.tail (by omega)
        refine ⟨w1, by omega, by omega, Or.inr ?_⟩
        have := g5 [] [] (by decide) rfl
        rw [List.append_nil] at this
        exact this
      · rw [if_neg h15] at hr
        exact absurd hr (by simp)
  · rw [if_neg h5] at hr
    have hr : (if (ps_hk T.tail).1 = 15 then (Sum.inr (T.tail.tail, []) : ps_R) else .inl (1, (ps_hk T.tail).2.1)) = .inr (R, c) := hr
    by_cases h15 : (ps_hk T.tail).1 = 15
    · rw [if_pos h15] at hr
      cases hr
      obtain ⟨w1, w2⟩ := t1.tail (by omega)
      refine ⟨w1, ?_, ?_, Or.inl rfl⟩
      · show 0 + T.tail.tail.length + 2 ≤ T.length
        omega
      · show 0 + T.tail.tail.length + 2 ≤ T.length
        omega
    · rw [if_neg h15] at hr
      exact absurd hr (by simp)
