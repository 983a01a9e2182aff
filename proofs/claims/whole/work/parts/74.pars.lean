/-! the component's reader: sums and comparisons -/
theorem ps_pF_ok {T R : List ps_K} {c : ps_C} (h : ps_ge T) (hc : (ps_hk T).1 = 18 ∨ (ps_hk T).1 = 19) (hr : ps_pF T = .inr (R, c)) : ps_ge R ∧ R.length < T.length ∧ (ps_encs c).length + R.length ≤ T.length := by
  obtain ⟨t1, t2⟩ := h.tail (by omega)
  unfold ps_pF at hr
  by_cases h18 : (ps_hk T).1 = 18
  · rw [if_pos h18] at hr
    have hb := ps_pU_ok t1
    cases hq : ps_pU T.tail with
    | inl e => rw [hq] at hr; exact absurd hr (by simp [ps_bnd])
    | inr q =>
      rw [hq] at hr hb
      obtain ⟨g1, g2, g3, g4, g5⟩ := hb
      have hr : (Sum.inr (q.1, q.2 ++ [(15, 0)]) : ps_R) = .inr (R, c) := hr
      cases hr
      refine ⟨g1, by omega, ?_⟩
      rw [ps_encs_app, List.length_append, ps_enc1 _ _ (by decide)]
      omega
  · rw [if_neg h18] at hr
    by_cases hn : (ps_hk T.tail).1 = 2
    · rw [if_pos hn] at hr
      by_cases hz : (ps_hk T.tail).2.2 = 0
      · rw [if_pos hz] at hr; exact absurd hr (by simp)
      · rw [if_neg hz] at hr
        cases hr
        obtain ⟨v1, v2⟩ := t1.tail (by omega)
        have he : (ps_encs [(16, (ps_hk T.tail).2.2)]).length = 2 := rfl
        exact ⟨v1, by omega, by omega⟩
    · rw [if_neg hn] at hr; exact absurd hr (by simp)
theorem ps_pPl_fuel : ∀ (n n' : Nat) (T : List ps_K) (a : ps_C), ps_ge T → T.length ≤ n → T.length ≤ n' → ps_pPl n T a = ps_pPl n' T a
  | 0, _, T, a, h, h1, _ => by have := h.hd.2.2; omega
  | _ + 1, 0, T, a, h, _, h2 => by have := h.hd.2.2; omega
  | n + 1, n' + 1, T, a, h, h1, h2 => by
    rw [ps_pPl, ps_pPl]
    by_cases hc : (ps_hk T).1 = 18 ∨ (ps_hk T).1 = 19
    · rw [if_pos hc, if_pos hc]
      cases hr : ps_pF T with
      | inl e => rfl
      | inr q =>
        have ok := ps_pF_ok h hc (R := q.1) (c := q.2) hr
        exact ps_pPl_fuel n n' q.1 _ ok.1 (by omega) (by omega)
    · rw [if_neg hc, if_neg hc]
theorem ps_lpl_fuel {B : List ps_K → ps_R} {op : Nat → Nat} {b : Bool} {m : Nat} (hB : ∀ T, ps_ge T → ps_gd' T b m (B T)) (ho0 : op 0 = 0) : ∀ (n n' : Nat) (T : List ps_K) (a : ps_C), ps_ge T → T.length ≤ n → T.length ≤ n' → ps_lpl B op n T a = ps_lpl B op n' T a
  | 0, _, T, a, h, h1, _ => by have := h.hd.2.2; omega
  | _ + 1, 0, T, a, h, _, h2 => by have := h.hd.2.2; omega
  | n + 1, n' + 1, T, a, h, h1, h2 => by
    rw [ps_lpl, ps_lpl]
    by_cases hc : op (ps_hk T).1 = 0
    · rw [if_pos hc, if_pos hc]
    · rw [if_neg hc, if_neg hc]
      obtain ⟨t1, t2⟩ := h.tail (fun e => hc (by rw [e]; exact ho0))
      have hb := hB T.tail t1
      cases hr : B T.tail with
      | inl e => rfl
      | inr q =>
        rw [hr] at hb
        exact ps_lpl_fuel hB ho0 n n' q.1 _ hb.1 (by have := hb.2.2.2.1; omega) (by have := hb.2.2.2.1; omega)
def ps_ct (sb : Nat) (a c : ps_C) (T : List ps_K) : ps_R := ps_bnd (ps_pPl T.length T c) (fun R c' => ps_lpl ps_pP ps_opS R.length R (if sb = 0 then c' else a ++ c' ++ [(ps_opS sb, 0)]))
theorem ps_bnd_r (R : List ps_K) (c : ps_C) (f : List ps_K → ps_C → ps_R) : ps_bnd (.inr (R, c)) f = f R c := rfl
theorem ps_bnd_l (e : Nat × Nat) (f : List ps_K → ps_C → ps_R) : ps_bnd (.inl e) f = .inl e := rfl
theorem ps_bnd_a (r : ps_R) (f g : List ps_K → ps_C → ps_R) : ps_bnd (ps_bnd r f) g = ps_bnd r (fun R c => ps_bnd (f R c) g) := by cases r <;> rfl
theorem ps_pS_ct (T : List ps_K) : ps_pS T = ps_bnd (ps_pU T) (fun R c => ps_ct 0 [] c R) := by
  have e : ps_pS T = ps_bnd (ps_bnd (ps_pU T) (fun R c => ps_pPl R.length R c)) (fun R c => ps_lpl ps_pP ps_opS R.length R c) := rfl
  rw [e, ps_bnd_a]
  rfl
theorem ps_ct_sign {sb : Nat} {a c : ps_C} {T : List ps_K} (h : ps_ge T) (hc : (ps_hk T).1 = 18 ∨ (ps_hk T).1 = 19) : ps_ct sb a c T = ps_bnd (ps_pF T) (fun R u => ps_ct sb a (c ++ u) R) := by
  obtain ⟨n, hn⟩ : ∃ n, T.length = n + 1 := ⟨T.length - 1, by have := h.hd.2.2; omega⟩
  unfold ps_ct
  rw [hn, ps_pPl, if_pos hc]
  cases hr : ps_pF T with
  | inl e => rfl
  | inr q =>
    have ok := ps_pF_ok h hc (R := q.1) (c := q.2) hr
    obtain ⟨R, u⟩ := q
    rw [ps_bnd_r, ps_bnd_r, ps_pPl_fuel n R.length R _ ok.1 (by have : R.length < T.length := ok.2.1; omega) (Nat.le_refl _)]
theorem ps_ct_end {sb : Nat} {a c : ps_C} {T : List ps_K} (h : ps_ge T) (hc : ¬ ((ps_hk T).1 = 18 ∨ (ps_hk T).1 = 19)) : ps_ct sb a c T = if ps_opS (ps_hk T).1 = 0 then .inr (T, if sb = 0 then c else a ++ c ++ [(ps_opS sb, 0)]) else ps_bnd (ps_pU T.tail) (fun R u => ps_ct (ps_hk T).1 (if sb = 0 then c else a ++ c ++ [(ps_opS sb, 0)]) u R) := by
  obtain ⟨n, hn⟩ : ∃ n, T.length = n + 1 := ⟨T.length - 1, by have := h.hd.2.2; omega⟩
  have e1 : ps_pPl T.length T c = .inr (T, c) := by rw [hn, ps_pPl, if_neg hc]
  have e2 : ps_ct sb a c T = ps_lpl ps_pP ps_opS T.length T (if sb = 0 then c else a ++ c ++ [(ps_opS sb, 0)]) := by
    unfold ps_ct
    rw [e1]
    rfl
  rw [e2, hn, ps_lpl]
  by_cases h0 : ps_opS (ps_hk T).1 = 0
  · rw [if_pos h0, if_pos h0]
  · rw [if_neg h0, if_neg h0]
    obtain ⟨t1, t2⟩ := h.tail (fun e => h0 (by rw [e]; rfl))
    have hk0 : (ps_hk T).1 ≠ 0 := fun e => h0 (by rw [e]; rfl)
    unfold ps_pP
    have hu := ps_pU_ok t1
    cases hr : ps_pU T.tail with
    | inl e => rfl
    | inr q =>
      rw [hr] at hu
      obtain ⟨g1, g2, g3, g4, g5⟩ := hu
      have hp := ps_pPl_ok (T0 := T.tail) q.1.length q.1 q.2 g1 g2 g3 g4 (g5.mono (by omega))
      show ps_bnd (ps_pPl q.1.length q.1 q.2) (fun R c' => ps_lpl ps_pP ps_opS n R ((if sb = 0 then c else a ++ c ++ [(ps_opS sb, 0)]) ++ c' ++ [(ps_opS (ps_hk T).1, 0)])) = ps_ct (ps_hk T).1 (if sb = 0 then c else a ++ c ++ [(ps_opS sb, 0)]) q.2 q.1
      unfold ps_ct
      cases hr2 : ps_pPl q.1.length q.1 q.2 with
      | inl e => rfl
      | inr q2 =>
        rw [hr2] at hp
        show ps_lpl ps_pP ps_opS n q2.1 _ = ps_lpl ps_pP ps_opS q2.1.length q2.1 _
        rw [ps_lpl_fuel (fun T hT => ps_pP_ok hT) rfl n q2.1.length q2.1 _ hp.1 (by have := hp.2.2.2.1; omega) (Nat.le_refl _), if_neg hk0]
section ParS
variable {T0 : List ps_K} {μ0 : am_Mem} {s0 : Nat} {pre : List Nat}
theorem ps_Pg.k {T : List ps_K} {cs : List Nat} {μ : am_Mem} (h : ps_Pg T0 μ0 s0 T cs μ) : μ 26 3 = nI (ps_hk T).1 := by
  obtain ⟨-, -, -, -, -, -, r, -, -, -, b4⟩ := h
  exact b4
theorem w210_36 (d : Nat) (hk : ps_Tk T0 μ0) (h0l : T0.length ≤ 401) : ∀ N (T : List ps_K), T.length ≤ N → ∀ (a c : ps_C) (sb i : Nat) (x2 : Int32) (μ : am_Mem), ps_Pg T0 μ0 s0 T (pre ++ ps_encs a ++ ps_encs c) μ → s0 + pre.length + (ps_encs a).length + (ps_encs c).length + (if sb = 0 then 0 else 1) + T.length ≤ 401 → i + T.length ≤ 400 → (sb = 0 → a = []) → (sb = 0 ∨ sb = 16 ∨ sb = 17) → ps_Oc T0 μ0 s0 pre (ps_ct sb a c T) (am_ev (am_call (d + 2)) 210 36 [.ref 26, .int (nI sb), .int x2, .int (nI i)] [] μ) := by
  intro N
  induction N with
  | zero =>
    intro T hT a c sb i x2 μ hP
    have := hP.2.2.2.2.2.1.hd.2.2
    omega
  | succ N ih =>
    intro T hT a c sb i x2 μ hP hb hi ha hsb
    have hge := hP.2.2.2.2.2.1
    have h24 := hge.hd.1
    have hl1 := hge.hd.2.2
    have e0 : am_c 0 = nI 0 := rfl
    rw [q210_36, hP.k]
    by_cases hc : (ps_hk T).1 = 18 ∨ (ps_hk T).1 = 19
    · obtain ⟨t1, t2⟩ := hge.tail (by omega)
      have hl2 := t1.hd.2.2
      have go : am_ev (am_call (d + 2)) 210 54 [.ref 26, .int (nI sb), .int x2, .int (nI i)] [] μ = am_ev (am_call (d + 2)) 210 105 [.ref 26, .int (nI sb), .int (nI (ps_hk T).1), .int (nI i)] [] μ := by
        rw [q210_54, hP.k, q210_62, if_neg (by rw [am_eq0 (by omega)]; omega)]
      obtain ⟨μ1, s1, s2⟩ := w202 (d + 1) hk h0l hP (by omega)
      have hlen : (pre ++ ps_encs a ++ ps_encs c).length = pre.length + (ps_encs a).length + (ps_encs c).length := by rw [List.length_append, List.length_append]
      have hu := w211 d hk h0l s2 (by omega) (p := (ps_hk T).1) h24
      have cont : am_ev (am_call (d + 2)) 210 105 [.ref 26, .int (nI sb), .int (nI (ps_hk T).1), .int (nI i)] [] μ = am_bI (am_call (d + 2) 211 [.ref 26, .int (nI (ps_hk T).1)] μ1) (fun r1 m1 => if r1 = 0 then am_ret (some (.int (am_c 0))) m1 else am_ev (am_call (d + 2)) 210 23 [.ref 26, .int (nI sb), .int (nI (ps_hk T).1), .int (nI (i + 1))] [] m1) := by
        rw [q210_105, s1, am_bV_ret, show nI i + am_c 1 = nI (i + 1) from nI_add i 1, q210_6, if_neg (by rw [am_cN, am_leN (by omega) (by omega)]; omega)]
      have first : (if nI (ps_hk T).1 = am_c 18 then am_ev (am_call (d + 2)) 210 54 [.ref 26, .int (nI sb), .int x2, .int (nI i)] [] μ else if nI (ps_hk T).1 = am_c 19 then am_ev (am_call (d + 2)) 210 54 [.ref 26, .int (nI sb), .int x2, .int (nI i)] [] μ else am_ev (am_call (d + 2)) 210 61 [.ref 26, .int (nI sb), .int x2, .int (nI i)] [] μ) = am_ev (am_call (d + 2)) 210 54 [.ref 26, .int (nI sb), .int x2, .int (nI i)] [] μ := by
        by_cases h18 : (ps_hk T).1 = 18
        · rw [if_pos (by rw [h18]; rfl)]
        · rw [if_neg (by rw [am_cN, am_eqN (by omega) (by omega)]; exact h18), if_pos (by rw [am_cN, am_eqN (by omega) (by omega)]; omega)]
      rw [first, go, cont, ps_ct_sign hge hc]
      -- the unit behind the sign
      have key : ∀ (u u' : ps_C) (R : List ps_K) (μ2 : am_Mem), ps_pF T = .inr (R, u') → ps_encs u' = ps_encs u ++ [10000 + (ps_hk T).1] → ps_Pg T0 μ0 s0 R (pre ++ ps_encs a ++ ps_encs c ++ ps_encs u) μ2 → ps_Oc T0 μ0 s0 pre (ps_ct sb a (c ++ u') R) (am_ev (am_call (d + 2)) 210 23 [.ref 26, .int (nI sb), .int (nI (ps_hk T).1), .int (nI (i + 1))] [] μ2) := by
        intro u u' R μ2 hF hen hP2
        have ok := ps_pF_ok hge hc hF
        rw [hen, List.length_append, List.length_singleton] at ok
        have hR1 := ok.1.hd.2.2
        obtain ⟨μ3, p1, p2⟩ := w205 (d + 1) hP2 (by rw [List.length_append, hlen]; omega) (10000 + (ps_hk T).1)
        rw [q210_23, if_neg (by rw [am_eq0 (by omega)]; omega), show am_c 10000 = nI 10000 from rfl, nI_add, p1, am_bV_ret]
        refine ih R (by omega) a (c ++ u') sb (i + 1) _ μ3 ?_ ?_ (by omega) ha hsb
        · rw [ps_encs_app, hen, ← List.append_assoc, ← List.append_assoc]
          exact p2
        · rw [ps_encs_app, List.length_append, hen, List.length_append, List.length_singleton]
          omega
      by_cases h18 : (ps_hk T).1 = 18
      · have hpv : ps_pV (ps_hk T).1 T.tail = ps_pU T.tail := by rw [ps_pV, if_neg (by omega)]
        have hpf : ps_pF T = ps_bnd (ps_pU T.tail) (fun R c => .inr (R, c ++ [(15, 0)])) := by rw [ps_pF, if_pos h18]
        rw [hpv] at hu
        cases hr : ps_pU T.tail with
        | inl e =>
          rw [hr] at hu hpf
          obtain ⟨μ', e1, e2⟩ := hu
          rw [e1, am_bI_ret, if_pos (by decide), hpf]
          exact ⟨μ', rfl, e2⟩
        | inr q =>
          rw [hr] at hu hpf
          obtain ⟨μ', e1, e2⟩ := hu
          have hpf : ps_pF T = .inr (q.1, q.2 ++ [(15, 0)]) := hpf
          rw [e1, am_bI_ret, if_neg (by decide), hpf]
          exact key q.2 (q.2 ++ [(15, 0)]) q.1 μ' hpf (by rw [ps_encs_app, h18]; rfl) e2
      · have h19 : (ps_hk T).1 = 19 := by omega
        have hpv : ps_pV (ps_hk T).1 T.tail = if (ps_hk T.tail).1 = 2 then (if (ps_hk T.tail).2.2 = 0 then .inl (2, (ps_hk T.tail).2.1) else .inr (T.tail.tail, [(0, (ps_hk T.tail).2.2)])) else .inl (1, (ps_hk T.tail).2.1) := by rw [ps_pV, if_pos h19]
        have hpf : ps_pF T = if (ps_hk T.tail).1 = 2 then (if (ps_hk T.tail).2.2 = 0 then .inl (2, (ps_hk T.tail).2.1) else .inr (T.tail.tail, [(16, (ps_hk T.tail).2.2)])) else .inl (1, (ps_hk T.tail).2.1) := by rw [ps_pF, if_neg h18]
        rw [hpv] at hu
        by_cases h2 : (ps_hk T.tail).1 = 2
        · rw [if_pos h2] at hu hpf
          by_cases hz : (ps_hk T.tail).2.2 = 0
          · rw [if_pos hz] at hu hpf
            obtain ⟨μ', e1, e2⟩ := hu
            rw [e1, am_bI_ret, if_pos (by decide), hpf]
            exact ⟨μ', rfl, e2⟩
          · rw [if_neg hz] at hu hpf
            obtain ⟨μ', e1, e2⟩ := hu
            rw [e1, am_bI_ret, if_neg (by decide), hpf]
            exact key [(0, (ps_hk T.tail).2.2)] [(16, (ps_hk T.tail).2.2)] T.tail.tail μ' hpf (by rw [h19]; rfl) e2
        · rw [if_neg h2] at hu hpf
          obtain ⟨μ', e1, e2⟩ := hu
          rw [e1, am_bI_ret, if_pos (by decide), hpf]
          exact ⟨μ', rfl, e2⟩
    · rw [if_neg (by rw [am_cN, am_eqN (by omega) (by omega)]; omega), if_neg (by rw [am_cN, am_eqN (by omega) (by omega)]; omega), q210_61, q210_62, if_pos (show am_c 0 = 0 from rfl), ps_ct_end hge hc]
      generalize ha' : (if sb = 0 then c else a ++ c ++ [(ps_opS sb, 0)]) = a'
      have fin : ∀ μ1 : am_Mem, ps_Pg T0 μ0 s0 T (pre ++ ps_encs a') μ1 → s0 + pre.length + (ps_encs a').length + T.length ≤ 401 → ps_Oc T0 μ0 s0 pre (if ps_opS (ps_hk T).1 = 0 then .inr (T, a') else ps_bnd (ps_pU T.tail) (fun R u => ps_ct (ps_hk T).1 a' u R)) (am_ev (am_call (d + 2)) 210 80 [.ref 26, .int (nI sb), .int (am_c 0), .int (nI i)] [] μ1) := by
        intro μ1 hP1 hb1
        rw [q210_80, hP1.k, q210_100, hP1.k]
        by_cases hs : (ps_hk T).1 = 16 ∨ (ps_hk T).1 = 17
        · have hop : ps_opS (ps_hk T).1 ≠ 0 := by unfold ps_opS; rcases hs with e | e <;> rw [e] <;> decide
          obtain ⟨t1, t2⟩ := hge.tail (by omega)
          have hl2 := t1.hd.2.2
          obtain ⟨μ2, s1, s2⟩ := w202 (d + 1) hk h0l hP1 (by omega)
          have hu := w211 d hk h0l s2 (by rw [List.length_append]; omega) (p := 0) (by omega)
          have hpv : ps_pV 0 T.tail = ps_pU T.tail := by rw [ps_pV, if_neg (by decide)]
          have first : (if nI (ps_hk T).1 = am_c 16 then am_ev (am_call (d + 2)) 210 105 [.ref 26, .int (nI (ps_hk T).1), .int (am_c 0), .int (nI i)] [] μ1 else if nI (ps_hk T).1 = am_c 17 then am_ev (am_call (d + 2)) 210 105 [.ref 26, .int (nI (ps_hk T).1), .int (am_c 0), .int (nI i)] [] μ1 else am_ret (some (.int (am_c 1))) μ1) = am_ev (am_call (d + 2)) 210 105 [.ref 26, .int (nI (ps_hk T).1), .int (am_c 0), .int (nI i)] [] μ1 := by
            by_cases h16 : (ps_hk T).1 = 16
            · rw [if_pos (by rw [h16]; rfl)]
            · rw [if_neg (by rw [am_cN, am_eqN (by omega) (by omega)]; exact h16), if_pos (by rw [am_cN, am_eqN (by omega) (by omega)]; omega)]
          rw [if_neg hop, first, q210_105, s1, am_bV_ret, show nI i + am_c 1 = nI (i + 1) from nI_add i 1, q210_6, if_neg (by rw [am_cN, am_leN (by omega) (by omega)]; omega), e0]
          rw [hpv] at hu
          have hok := ps_pU_ok t1
          cases hr : ps_pU T.tail with
          | inl e =>
            rw [hr] at hu
            obtain ⟨μ', e1, e2⟩ := hu
            rw [e1, am_bI_ret, if_pos (by decide)]
            exact ⟨μ', rfl, e2⟩
          | inr q =>
            rw [hr] at hu hok
            obtain ⟨μ', e1, e2⟩ := hu
            obtain ⟨g1, g2, g3, g4, g5⟩ := hok
            rw [e1, am_bI_ret, if_neg (by decide), q210_23, if_pos (by decide)]
            exact ih q.1 (by omega) a' q.2 (ps_hk T).1 (i + 1) _ μ' e2 (by rw [if_neg (by omega)]; omega) (by omega) (fun e => by omega) (Or.inr hs)
        · have hop : ps_opS (ps_hk T).1 = 0 := by unfold ps_opS; rw [if_neg (by omega), if_neg (by omega)]
          rw [if_pos hop, if_neg (by rw [am_cN, am_eqN (by omega) (by omega)]; omega), if_neg (by rw [am_cN, am_eqN (by omega) (by omega)]; omega)]
          exact ⟨μ1, rfl, hP1⟩
      by_cases hsb0 : sb = 0
      · have ha0 := ha hsb0
        subst ha0
        rw [if_pos hsb0] at ha' hb
        rw [if_pos (show nI sb = 0 by rw [hsb0]; rfl)]
        refine fin μ ?_ ?_
        · rw [← ha']
          have : pre ++ ps_encs [] ++ ps_encs c = pre ++ ps_encs c := by rw [show ps_encs [] = [] from rfl, List.append_nil]
          rw [← this]; exact hP
        · rw [← ha']
          have : (ps_encs []).length = 0 := rfl
          omega
      · rw [if_neg hsb0] at ha' hb
        have he : ps_encs [(ps_opS sb, 0)] = [10000 + sb] := by rcases hsb with e | e | e; exact absurd e hsb0; rw [e]; rfl; rw [e]; rfl
        obtain ⟨μ1, p1, p2⟩ := w205 (d + 1) hP (by rw [List.length_append, List.length_append]; omega) (10000 + sb)
        rw [if_neg (show ¬ nI sb = 0 by rw [am_eq0 (by omega)]; exact hsb0), show am_c 10000 = nI 10000 from rfl, nI_add, p1, am_bV_ret]
        refine fin μ1 ?_ ?_
        · rw [← ha', ps_encs_app, ps_encs_app, he, ← List.append_assoc, ← List.append_assoc]
          exact p2
        · rw [← ha', ps_encs_app, ps_encs_app, he, List.length_append, List.length_append, List.length_singleton]
          omega
end ParS
