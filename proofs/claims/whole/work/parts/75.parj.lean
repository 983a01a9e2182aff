/-! the component's reader: comparisons, conditions, joined conditions -/
section ParJ
variable {T0 : List ps_K} {μ0 : am_Mem} {s0 : Nat}
theorem ps_gb01 {v : Nat} (hv : v ≤ 1) (μ : am_Mem) : am_gb (Nat.blt (am_ix (nI v)) 2) (am_ret (some (.int (nI v))) μ) = am_ret (some (.int (nI v))) μ := by
  rw [am_ixN (by omega), am_gbI (by omega)]
theorem ps_Oc.gb {pre : List Nat} {r : ps_R} {X : am_R} (h : ps_Oc T0 μ0 s0 pre r X) : ps_Oc T0 μ0 s0 pre r (am_bI X (fun r1 m1 => am_gb (Nat.blt (am_ix r1) 2) (am_ret (some (.int r1)) m1))) := by
  cases r with
  | inl e =>
    obtain ⟨μ', e1, e2⟩ := h
    exact ⟨μ', by rw [e1, am_bI_ret, ps_gb01 (by omega)], e2⟩
  | inr q =>
    obtain ⟨μ', e1, e2⟩ := h
    exact ⟨μ', by rw [e1, am_bI_ret, ps_gb01 (by omega)], e2⟩
theorem ps_Oc.bnd {pre pre' : List Nat} {r : ps_R} {X : am_R} {f : List ps_K → ps_C → ps_R} {G : Int32 → am_Mem → am_R} (h : ps_Oc T0 μ0 s0 pre r X) (h0 : ∀ μ', G (nI 0) μ' = am_ret (some (.int (nI 0))) μ') (h1 : ∀ R c μ', r = .inr (R, c) → ps_Pg T0 μ0 s0 R (pre ++ ps_encs c) μ' → ps_Oc T0 μ0 s0 pre' (f R c) (G (nI 1) μ')) : ps_Oc T0 μ0 s0 pre' (ps_bnd r f) (am_bI X G) := by
  cases r with
  | inl e =>
    obtain ⟨μ', e1, e2⟩ := h
    exact ⟨μ', by rw [e1, am_bI_ret, h0], e2⟩
  | inr q =>
    obtain ⟨μ', e1, e2⟩ := h
    rw [e1, am_bI_ret]
    exact h1 q.1 q.2 μ' rfl e2
theorem ps_Oc.pre {pre : List Nat} {a c : ps_C} {R : List ps_K} {X : am_R} (h : ps_Oc T0 μ0 s0 (pre ++ ps_encs a) (.inr (R, c)) X) : ps_Oc T0 μ0 s0 pre (.inr (R, a ++ c)) X := by
  obtain ⟨μ', e1, e2⟩ := h
  exact ⟨μ', e1, by show ps_Pg T0 μ0 s0 R (pre ++ ps_encs (a ++ c)) μ'; rw [ps_encs_app, ← List.append_assoc]; exact e2⟩
/-- what a reader of the component does -/
def ps_Sp (T0 : List ps_K) (μ0 : am_Mem) (s0 : Nat) (B : List ps_K → ps_R) (X : am_Mem → am_R) : Prop := ∀ (pre : List Nat) (T : List ps_K) (μ : am_Mem), ps_Pg T0 μ0 s0 T pre μ → s0 + pre.length + T.length ≤ 401 → ps_Oc T0 μ0 s0 pre (B T) (X μ)
theorem w210 (d : Nat) (hk : ps_Tk T0 μ0) (h0l : T0.length ≤ 401) : ps_Sp T0 μ0 s0 ps_pS (am_call (d + 3) 210 [.ref 26]) := by
  intro pre T μ hP hb
  have hge := hP.2.2.2.2.2.1
  have hl1 := hge.hd.2.2
  have hu := w211 d hk h0l hP hb (p := 0) (by omega)
  have hok := ps_pU_ok hge
  rw [e210, q210_0, q210_6, if_neg (by decide), ps_pS_ct]
  rw [show ps_pV 0 T = ps_pU T from by rw [ps_pV, if_neg (by decide)]] at hu
  refine hu.bnd (fun μ' => rfl) (fun R c μ' hr hP' => ?_)
  rw [hr] at hok
  obtain ⟨g1, g2, g3, g4, g5⟩ := hok
  have g2 : (ps_encs c).length + R.length ≤ T.length := g2
  have g4 : R.length < T.length := g4
  obtain ⟨r, b1, -⟩ := hP.2.2.2.2.2.2
  show ps_Oc T0 μ0 s0 pre (ps_ct 0 [] c R) (if nI 1 = 0 then _ else am_ev (am_call (d + 2)) 210 23 _ [] μ')
  rw [if_neg (show ¬ nI 1 = 0 by decide), q210_23, if_pos (show am_c 0 = 0 from rfl)]
  exact w210_36 (pre := pre) d hk h0l R.length R (Nat.le_refl _) [] c 0 0 _ μ' (by rw [show ps_encs [] = [] from rfl, List.append_nil]; exact hP') (by rw [show (ps_encs []).length = 0 from rfl, if_pos rfl]; omega) (by omega) (fun _ => rfl) (Or.inl rfl)
theorem ps_gd'.inr {T R : List ps_K} {c : ps_C} {b : Bool} {m : Nat} {r : ps_R} (h : ps_gd' T b m r) (hr : r = .inr (R, c)) : ps_ge R ∧ (ps_encs c).length + R.length ≤ T.length ∧ R.length < T.length := by
  rw [hr] at h
  exact ⟨h.1, h.2.1, h.2.2.2.1⟩
theorem w209 (d : Nat) (hk : ps_Tk T0 μ0) (h0l : T0.length ≤ 401) : ps_Sp T0 μ0 s0 ps_pC (am_call (d + 4) 209 [.ref 26]) := by
  intro pre T μ hP hb
  have hge := hP.2.2.2.2.2.1
  rw [e209, q209_0]
  refine (w210 d hk h0l pre T μ hP hb).bnd (fun μ' => rfl) (fun R c μ' hr hP' => ?_)
  obtain ⟨g1, g2, g4⟩ := (ps_pS_ok hge).inr hr
  have h24 := g1.hd.1
  show ps_Oc T0 μ0 s0 pre _ (if nI 1 = 0 then _ else am_ev (am_call (d + 3)) 209 9 _ [] μ')
  rw [if_neg (show ¬ nI 1 = 0 by decide), q209_9, hP'.k]
  by_cases hc : (ps_hk R).1 = 22 ∨ (ps_hk R).1 = 23 ∨ (ps_hk R).1 = 24
  · have ho : ps_opC (ps_hk R).1 ≠ 0 ∧ ps_encs [(ps_opC (ps_hk R).1, 0)] = [10000 + (ps_hk R).1] := by
      rcases hc with e | e | e <;> rw [e] <;> exact ⟨by decide, rfl⟩
    have first : (if nI (ps_hk R).1 = am_c 22 then am_ev (am_call (d + 3)) 209 38 [.ref 26, .int (nI (ps_hk R).1)] [] μ' else if nI (ps_hk R).1 = am_c 23 then am_ev (am_call (d + 3)) 209 38 [.ref 26, .int (nI (ps_hk R).1)] [] μ' else if nI (ps_hk R).1 = am_c 24 then am_ev (am_call (d + 3)) 209 38 [.ref 26, .int (nI (ps_hk R).1)] [] μ' else am_bI (am_call (d + 3) 203 [.ref 26, .int (am_c 1)] μ') (fun r1 m1 => am_gb (Nat.blt (am_ix r1) 2) (am_ret (some (.int r1)) m1))) = am_ev (am_call (d + 3)) 209 38 [.ref 26, .int (nI (ps_hk R).1)] [] μ' := by
      by_cases h1 : (ps_hk R).1 = 22
      · rw [if_pos (by rw [h1]; rfl)]
      · rw [if_neg (by rw [am_cN, am_eqN (by omega) (by omega)]; exact h1)]
        by_cases h2 : (ps_hk R).1 = 23
        · rw [if_pos (by rw [h2]; rfl)]
        · rw [if_neg (by rw [am_cN, am_eqN (by omega) (by omega)]; exact h2), if_pos (by rw [am_cN, am_eqN (by omega) (by omega)]; omega)]
    obtain ⟨t1, t2⟩ := g1.tail (by omega)
    obtain ⟨μ1, s1, s2⟩ := w202 (d + 2) hk h0l hP' (by omega)
    rw [first, if_neg ho.1, q209_38, s1, am_bV_ret]
    refine (w210 d hk h0l (pre ++ ps_encs c) R.tail μ1 s2 (by rw [List.length_append]; omega)).bnd (fun μ' => rfl) (fun R2 c2 μ2 hr2 hP2 => ?_)
    obtain ⟨v1, v2, v4⟩ := (ps_pS_ok t1).inr hr2
    have v5 := v1.hd.2.2
    show ps_Oc T0 μ0 s0 pre _ (if nI 1 = 0 then _ else am_ev (am_call (d + 3)) 209 51 _ [] μ2)
    obtain ⟨μ3, p1, p2⟩ := w205 (d + 2) hP2 (by rw [List.length_append, List.length_append]; omega) (10000 + (ps_hk R).1)
    rw [if_neg (show ¬ nI 1 = 0 by decide), q209_51, show am_c 10000 = nI 10000 from rfl, nI_add, p1, am_bV_ret]
    exact ⟨μ3, rfl, by show ps_Pg T0 μ0 s0 R2 _ μ3; rw [ps_encs_app, ps_encs_app, ho.2, ← List.append_assoc, ← List.append_assoc]; exact p2⟩
  · have ho : ps_opC (ps_hk R).1 = 0 := by unfold ps_opC; rw [if_neg (by omega), if_neg (by omega), if_neg (by omega)]
    obtain ⟨μ1, s1, s2⟩ := w203 (d + 2) hk h0l hP' 1
    rw [if_pos ho, if_neg (by rw [am_cN, am_eqN (by omega) (by omega)]; omega), if_neg (by rw [am_cN, am_eqN (by omega) (by omega)]; omega), if_neg (by rw [am_cN, am_eqN (by omega) (by omega)]; omega)]
    refine ps_Oc.gb (r := .inl (1, (ps_hk R).2.1)) ?_
    exact ⟨μ1, s1, s2⟩
/-- joined conditions: the loop -/
theorem w207L (D : Nat) (hk : ps_Tk T0 μ0) (h0l : T0.length ≤ 401) {o w m : Nat} {b : Bool} {x2 : Int32} {op : Nat → Nat} {B : List ps_K → ps_R} {X : am_Mem → am_R} (ho0 : 0 < o) (ho24 : o ≤ 24) (hop : op o = w ∧ w ≠ 0 ∧ ∀ k, k ≠ o → op k = 0) (hw : ps_encs [(w, 0)] = [10000 + o]) (hB : ∀ T, ps_ge T → ps_gd' T b m (B T)) (hX : ps_Sp T0 μ0 s0 B X) (hq : ∀ (i : Nat) (x4 : Value) (μ : am_Mem), i < 400 → am_ev (am_call (D + 1)) 207 2 [.ref 26, .int (nI o), .int x2, .int (nI i), x4] [] μ = am_bI (X μ) (fun r1 m1 => am_ev (am_call (D + 1)) 207 30 [.ref 26, .int (nI o), .int x2, .int (nI i), x4] [.int r1] m1)) : ps_Sp T0 μ0 s0 (ps_lp B op) (am_call (D + 2) 207 [.ref 26, .int (nI o), .int x2]) := by
  have op0 : op 0 = 0 := hop.2.2 0 (by omega)
  intro pre T μ hP hb
  have L52 : ∀ N (T : List ps_K), T.length ≤ N → ∀ (a : ps_C) (i : Nat) (x4 : Int32) (μ : am_Mem), ps_Pg T0 μ0 s0 T (pre ++ ps_encs a) μ → s0 + pre.length + (ps_encs a).length + T.length ≤ 401 → i + T.length ≤ 400 → ps_Oc T0 μ0 s0 pre (ps_lpl B op T.length T a) (am_ev (am_call (D + 1)) 207 52 [.ref 26, .int (nI o), .int x2, .int (nI i), .int x4] [] μ) := by
    intro N
    induction N with
    | zero =>
      intro T hT a i x4 μ hP
      have := hP.2.2.2.2.2.1.hd.2.2
      omega
    | succ N ih =>
      intro T hT a i x4 μ hP hb hi
      have hge := hP.2.2.2.2.2.1
      have h24 := hge.hd.1
      obtain ⟨n, hn⟩ : ∃ n, T.length = n + 1 := ⟨T.length - 1, by have := hge.hd.2.2; omega⟩
      rw [q207_52, hP.k, hn, ps_lpl]
      by_cases hc : (ps_hk T).1 = o
      · obtain ⟨t1, t2⟩ := hge.tail (by omega)
        have t3 := t1.hd.2.2
        obtain ⟨μ1, s1, s2⟩ := w202 D hk h0l hP (by omega)
        rw [if_pos (show nI (ps_hk T).1 = nI o by rw [hc]), hc, hop.1, if_neg hop.2.1, q207_62, s1, am_bV_ret, show nI i + am_c 1 = nI (i + 1) from nI_add i 1, hq _ _ _ (by omega)]
        refine (hX (pre ++ ps_encs a) T.tail μ1 s2 (by rw [List.length_append]; omega)).bnd (fun μ' => by rw [q207_30, if_pos (by decide)]; rfl) (fun R c μ2 hr hP2 => ?_)
        obtain ⟨g1, g2, g4⟩ := (hB _ t1).inr hr
        have g5 := g1.hd.2.2
        obtain ⟨μ3, p1, p2⟩ := w205 D hP2 (by rw [List.length_append, List.length_append]; omega) (10000 + o)
        rw [q207_30, if_neg (by decide), q207_39, if_neg (show ¬ nI (i + 1) ≤ 0 by rw [show (0 : Int32) = nI 0 from rfl, am_leN (by omega) (by omega)]; omega), show am_c 10000 = nI 10000 from rfl, nI_add, p1, am_bV_ret, ps_lpl_fuel hB op0 n R.length R _ g1 (by omega) (Nat.le_refl _)]
        have hl : (ps_encs (a ++ c ++ [(w, 0)])).length = (ps_encs a).length + (ps_encs c).length + 1 := by rw [ps_encs_app, ps_encs_app, hw, List.length_append, List.length_append, List.length_singleton]
        exact ih R (by omega) (a ++ c ++ [(w, 0)]) (i + 1) _ μ3 (by rw [ps_encs_app, ps_encs_app, hw, ← List.append_assoc, ← List.append_assoc]; exact p2) (by omega) (by omega)
      · rw [if_pos (hop.2.2 _ hc), if_neg (by rw [am_eqN (by omega) (by omega)]; exact hc)]
        exact ⟨μ, rfl, hP⟩
  have hge := hP.2.2.2.2.2.1
  rw [e207, q207_0, show am_c 0 = nI 0 from rfl, hq 0 _ _ (by omega), ps_lp]
  refine (hX pre T μ hP hb).bnd (fun μ' => by rw [q207_30, if_pos (by decide)]; rfl) (fun R c μ2 hr hP2 => ?_)
  obtain ⟨g1, g2, g4⟩ := (hB _ hge).inr hr
  obtain ⟨r, b1, -⟩ := hP.2.2.2.2.2.2
  rw [q207_30, if_neg (by decide), q207_39, if_pos (by decide)]
  exact L52 R.length R (Nat.le_refl _) c 0 _ μ2 hP2 (by omega) (by omega)
theorem w207_7 (D : Nat) (hk : ps_Tk T0 μ0) (h0l : T0.length ≤ 401) {m : Nat} {x2 : Int32} {B : List ps_K → ps_R} (hB : ∀ T, ps_ge T → ps_gd' T true m (B T)) (hX : ps_Sp T0 μ0 s0 B (am_call (D + 1) 208 [.ref 26, .int x2])) : ps_Sp T0 μ0 s0 (ps_lp B ps_opA) (am_call (D + 2) 207 [.ref 26, .int (nI 7), .int x2]) := by
  refine w207L D hk h0l (o := 7) (w := 21) (by decide) (by decide) ⟨rfl, by decide, fun k hk => if_neg hk⟩ rfl hB hX (fun i x4 μ hi => ?_)
  rw [q207_2, if_neg (by rw [am_cN, am_leN (by omega) (by omega)]; omega), if_neg (by decide), q207_25]
theorem w207_6 (D : Nat) (hk : ps_Tk T0 μ0) (h0l : T0.length ≤ 401) {m : Nat} {x2 : Int32} {B : List ps_K → ps_R} (hB : ∀ T, ps_ge T → ps_gd' T true m (B T)) (hX : ps_Sp T0 μ0 s0 B (am_call (D + 1) 207 [.ref 26, .int (nI 7), .int x2])) : ps_Sp T0 μ0 s0 (ps_lp B ps_opO) (am_call (D + 2) 207 [.ref 26, .int (nI 6), .int x2]) := by
  refine w207L D hk h0l (o := 6) (w := 22) (by decide) (by decide) ⟨rfl, by decide, fun k hk => if_neg hk⟩ rfl hB hX (fun i x4 μ hi => ?_)
  rw [q207_2, if_neg (by rw [am_cN, am_leN (by omega) (by omega)]; omega), if_pos (by decide)]
  rfl
theorem w208 (hk : ps_Tk T0 μ0) (h0l : T0.length ≤ 401) : ∀ (k D : Nat), k ≤ 8 → 5 + 3 * k ≤ D → ps_Sp T0 μ0 s0 (ps_pX k) (am_call D 208 [.ref 26, .int (nI (8 - k))]) := by
  intro k
  induction k with
  | zero =>
    intro D _ hD pre T μ hP hb
    obtain ⟨d, hd⟩ : ∃ d, D = d + 5 := ⟨D - 5, by omega⟩
    subst hd
    have hge := hP.2.2.2.2.2.1
    have h24 := hge.hd.1
    show ps_Oc T0 μ0 s0 pre (ps_pX 0 T) (am_call (d + 4 + 1) 208 _ μ)
    rw [e208, q208_0, hP.k, ps_pX]
    by_cases hc : (ps_hk T).1 = 8 ∨ (ps_hk T).1 = 20
    · have first : ∀ (A B : am_R), (if nI (ps_hk T).1 = am_c 8 then A else if nI (ps_hk T).1 = am_c 20 then A else B) = A := by
        intro A B
        by_cases h1 : (ps_hk T).1 = 8
        · rw [if_pos (by rw [h1]; rfl)]
        · rw [if_neg (by rw [am_cN, am_eqN (by omega) (by omega)]; exact h1), if_pos (by rw [am_cN, am_eqN (by omega) (by omega)]; omega)]
      obtain ⟨μ1, s1, s2⟩ := w203 (d + 3) hk h0l hP 3
      rw [first, if_pos hc, q208_23, if_neg (by decide)]
      exact ps_Oc.gb (r := .inl (3, (ps_hk T).2.1)) ⟨μ1, s1, s2⟩
    · rw [if_neg hc, if_neg (by rw [am_cN, am_eqN (by omega) (by omega)]; omega), if_neg (by rw [am_cN, am_eqN (by omega) (by omega)]; omega)]
      exact (w209 d hk h0l pre T μ hP hb).gb
  | succ k ih =>
    intro D hk8 hD pre T μ hP hb
    obtain ⟨E, hDE⟩ : ∃ E, D = E + 3 := ⟨D - 3, by omega⟩
    have hE : 5 + 3 * k ≤ E := by omega
    obtain ⟨E', hE'⟩ : ∃ E', E = E' + 1 := ⟨E - 1, by omega⟩
    subst hDE
    have hge := hP.2.2.2.2.2.1
    have h24 := hge.hd.1
    have ihE := ih E (by omega) hE
    have x1e : nI (8 - (k + 1)) + am_c 1 = nI (8 - k) := by rw [am_cN, nI_add]; congr 1; omega
    rw [e208, q208_0, hP.k, ps_pX]
    by_cases hc : (ps_hk T).1 = 8 ∨ (ps_hk T).1 = 20
    · have first : ∀ (A B : am_R), (if nI (ps_hk T).1 = am_c 8 then A else if nI (ps_hk T).1 = am_c 20 then A else B) = A := by
        intro A B
        by_cases h1 : (ps_hk T).1 = 8
        · rw [if_pos (by rw [h1]; rfl)]
        · rw [if_neg (by rw [am_cN, am_eqN (by omega) (by omega)]; exact h1), if_pos (by rw [am_cN, am_eqN (by omega) (by omega)]; omega)]
      obtain ⟨t1, t2⟩ := hge.tail (by omega)
      have t3 := t1.hd.2.2
      obtain ⟨μ1, s1, s2⟩ := w202 (E + 1) hk h0l hP (by omega)
      rw [first, q208_23, if_pos (show nI (8 - (k + 1)) < am_c 8 by rw [am_cN, am_ltN (by omega) (by omega)]; omega), q208_35, hP.k]
      by_cases h8 : (ps_hk T).1 = 8
      · rw [if_pos h8, if_pos (show nI (ps_hk T).1 = am_c 8 by rw [h8]; rfl), q208_49, s1, am_bV_ret, if_neg (by decide), q208_85, x1e]
        refine (ih (E + 2) (by omega) (by omega) pre T.tail μ1 s2 (by omega)).bnd (fun μ' => rfl) (fun R c μ2 hr hP2 => ?_)
        obtain ⟨g1, g2, g4⟩ := (ps_pX_ok k t1).inr hr
        have g5 := g1.hd.2.2
        obtain ⟨μ3, p1, p2⟩ := w205 (E + 1) hP2 (by rw [List.length_append]; omega) 10008
        show ps_Oc T0 μ0 s0 pre _ (if nI 1 = 0 then _ else am_ev (am_call (E + 2)) 208 97 _ [] μ2)
        rw [if_neg (show ¬ nI 1 = 0 by decide), q208_97, show am_c 10008 = nI 10008 from rfl, p1, am_bV_ret]
        exact ⟨μ3, rfl, by show ps_Pg T0 μ0 s0 R (pre ++ ps_encs (c ++ [(20, 0)])) μ3; rw [ps_encs_app, ← List.append_assoc]; exact p2⟩
      · have h20 : (ps_hk T).1 = 20 := by omega
        rw [if_neg h8, if_pos h20, if_neg (show ¬ nI (ps_hk T).1 = am_c 8 by rw [am_cN, am_eqN (by omega) (by omega)]; exact h8), q208_48, q208_49, s1, am_bV_ret, if_pos (show am_c 0 = 0 from rfl), x1e]
        subst hE'
        have b1 := w207_7 E' hk h0l (m := 4 + 2 * k) (fun T hT => ps_pX_ok k hT) ihE
        have b2 := w207_6 (E' + 1) hk h0l (m := 4 + 2 * k + 1) (fun T hT => ps_lp_ok (fun T hT => ps_pX_ok k hT) rfl (fun j => (ps_opA_ok j).1) (fun j => (ps_opA_ok j).2) hT) b1
        refine (b2 pre T.tail μ1 s2 (by omega)).bnd (fun μ' => by rw [if_pos (by decide), q208_83, q208_84]; exact ps_gb01 (v := 0) (by omega) μ') (fun R c μ2 hr hP2 => ?_)
        have h4 := w204 (E' + 1) hk h0l hP2 (k := 21) (by decide) (by decide)
        rw [if_neg (show ¬ nI 1 = 0 by decide)]
        by_cases h21 : (ps_hk R).1 = 21
        · rw [if_pos h21] at h4 ⊢
          obtain ⟨μ3, e1, e2⟩ := h4
          rw [show (am_c 21 : Int32) = nI 21 from rfl, e1, am_bI_ret, if_neg (by decide), q208_84]
          refine ⟨μ3, ps_gb01 (v := 1) (by omega) μ3, ?_⟩
          rw [show ps_encs [] = [] from rfl, List.append_nil] at e2
          exact e2
        · rw [if_neg h21] at h4 ⊢
          obtain ⟨μ3, e1, e2⟩ := h4
          rw [show (am_c 21 : Int32) = nI 21 from rfl, e1, am_bI_ret, if_pos (by decide), q208_83, q208_84]
          exact ⟨μ3, ps_gb01 (v := 0) (by omega) μ3, e2⟩
    · rw [if_neg (show ¬ (ps_hk T).1 = 8 by omega), if_neg (show ¬ (ps_hk T).1 = 20 by omega), if_neg (by rw [am_cN, am_eqN (by omega) (by omega)]; omega), if_neg (by rw [am_cN, am_eqN (by omega) (by omega)]; omega)]
      obtain ⟨F, hF⟩ : ∃ F, E + 2 = F + 4 := ⟨E - 2, by omega⟩
      rw [hF]
      exact (w209 F hk h0l pre T μ hP hb).gb
end ParJ
