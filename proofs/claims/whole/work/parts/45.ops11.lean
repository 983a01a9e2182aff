variable {bG : Nat}
/-! drop and move -/
def ps_cy (f e j : Nat) : Nat := if f ≤ j ∧ j < e then j + 1 else if e < j ∧ j ≤ f then j - 1 else if j = e then f else j
def ps_sw (e f j : Nat) : Nat := if j = e then f else if j = f then e else j
def ps_pi (S : ps_S) (n : Nat) (π : Nat → Nat) : ps_S := ps_ent S n (fun e => S.hd (π e)) (fun e => S.ct (π e)) (fun e => S.us (π e))
theorem ps_cy_lt {f e j n : Nat} (hf : f < n) (he : e < n) (hj : j < n) : ps_cy f e j < n := by
  unfold ps_cy
  repeat' split
  all_goals omega
theorem ps_cy_up {f e : Nat} (h : f ≤ e) (j : Nat) : ps_cy f e (ps_sw e (e + 1) j) = ps_cy f (e + 1) j := by
  unfold ps_cy ps_sw
  repeat' split
  all_goals omega
theorem ps_cy_dn {f e : Nat} (h : e + 1 ≤ f) (j : Nat) : ps_cy f (e + 1) (ps_sw (e + 1) e j) = ps_cy f e j := by
  unfold ps_cy ps_sw
  repeat' split
  all_goals omega
theorem ps_cy_id (f j : Nat) : ps_cy f f j = j := by
  unfold ps_cy
  repeat' split
  all_goals omega
/-- rows of the component's entries, led by π -/
def ps_rc (π : Nat → Nat) (μ μ' : am_Mem) : Prop := (∀ j, μ' 3 j = μ 3 (π j)) ∧ (∀ j, μ' 4 j = μ 4 (π j)) ∧ (∀ j i, i < 3 → μ' 5 (j * 3 + i) = μ 5 (π j * 3 + i)) ∧ ∀ K, K ≠ 3 → K ≠ 4 → K ≠ 5 → μ' K = μ K
theorem ps_rc.tr {π σ ρ : Nat → Nat} {μ μ1 μ2 : am_Mem} (h : ps_rc π μ μ1) (h' : ps_rc σ μ1 μ2) (e : ∀ j, π (σ j) = ρ j) : ps_rc ρ μ μ2 :=
  ⟨fun j => by rw [h'.1, h.1, e], fun j => by rw [h'.2.1, h.2.1, e], fun j i hi => by rw [h'.2.2.1 j i hi, h.2.2.1 _ i hi, e], fun K a b c => by rw [h'.2.2.2 K a b c, h.2.2.2 K a b c]⟩
theorem ps_rc.id {π : Nat → Nat} (h : ∀ j, π j = j) (μ : am_Mem) : ps_rc π μ μ := ⟨fun j => by rw [h], fun j => by rw [h], fun j i _ => by rw [h], fun _ _ _ _ => rfl⟩
theorem c709a (d : Nat) {e f : Nat} (he : e < 12) (hf : f < 12) (μ : am_Mem) : am_call (d + 1) 709 [.ref 3, .int (nI e), .int (nI f)] μ = am_ret none (am_up (am_up μ 3 e (μ 3 f)) 3 f (μ 3 e)) := by
  rw [e709a, q709a_0]
  simp (disch := omega) only [am_ixN, am_gbI]
theorem c709b (d : Nat) {e f : Nat} (he : e < 12) (hf : f < 12) (μ : am_Mem) : am_call (d + 1) 709 [.ref 4, .int (nI e), .int (nI f)] μ = am_ret none (am_up (am_up μ 4 e (μ 4 f)) 4 f (μ 4 e)) := by
  rw [e709b, q709b_0]
  simp (disch := omega) only [am_ixN, am_gbI]
theorem c709c (d : Nat) {e f : Nat} (he : e < 36) (hf : f < 36) (μ : am_Mem) : am_call (d + 1) 709 [.ref 5, .int (nI e), .int (nI f)] μ = am_ret none (am_up (am_up μ 5 e (μ 5 f)) 5 f (μ 5 e)) := by
  rw [e709c, q709c_0]
  simp (disch := omega) only [am_ixN, am_gbI]
theorem ps_swp {μ : am_Mem} {K e f : Nat} (j : Nat) : am_up (am_up μ K e (μ K f)) K f (μ K e) K j = μ K (ps_sw e f j) := by
  unfold ps_sw
  by_cases h1 : j = f
  · subst h1
    rw [am_upS]
    by_cases h2 : j = e
    · subst h2; rw [if_pos rfl]
    · rw [if_neg h2, if_pos rfl]
  · rw [am_upI h1]
    by_cases h2 : j = e
    · subst h2; rw [if_pos rfl, am_upS]
    · rw [if_neg h2, if_neg h1, am_upI h2]
theorem c708 (d : Nat) {e f : Nat} (he : e < 12) (hf : f < 12) (hef : e ≠ f) (μ : am_Mem) : ∃ μ', am_call (d + 2) 708 [.ref 1, .int (nI e), .int (nI f)] μ = am_ret none μ' ∧ ps_rc (ps_sw e f) μ μ' := by
  have e0 : am_c 0 = nI 0 := rfl
  rw [e708, q708_0, c709a d he hf, am_bV_ret, c709b d he hf, am_bV_ret]
  generalize hμ1 : am_up (am_up (am_up (am_up μ 3 e (μ 3 f)) 3 f (μ 3 e)) 4 e _) 4 f _ = μ1
  have a3 : ∀ j, μ1 3 j = μ 3 (ps_sw e f j) := fun j => by rw [← hμ1, am_upK (by omega), am_upK (by omega), ps_swp]
  have a4 : ∀ j, μ1 4 j = μ 4 (ps_sw e f j) := fun j => by rw [← hμ1, ps_swp, am_upK (by omega), am_upK (by omega)]
  have aK : ∀ K, K ≠ 3 → K ≠ 4 → μ1 K = μ K := fun K h3 h4 => by rw [← hμ1, am_up_ne h4, am_up_ne h4, am_up_ne h3, am_up_ne h3]
  have st : ∀ (i : Nat) (μ2 : am_Mem), i < 3 → am_ev (am_call (d + 1)) 708 20 [.ref 1, .int (nI e), .int (nI f), .int (nI i)] [] μ2 = am_ev (am_call (d + 1)) 708 20 [.ref 1, .int (nI e), .int (nI f), .int (nI (i + 1))] [] (am_up (am_up μ2 5 (e * 3 + i) (μ2 5 (f * 3 + i))) 5 (f * 3 + i) (μ2 5 (e * 3 + i))) := by
    intro i μ2 hi
    rw [q708_20]
    simp (disch := omega) only [am_cN, am_leN, pk_mul, nI_add]
    rw [if_neg (by omega), c709c d (by omega) (by omega), am_bV_ret]
  rw [e0, st 0 μ1 (by omega)]
  rw [st 1 _ (by omega)]
  rw [st 2 _ (by omega), q708_20, if_pos (by decide), q708_48]
  refine ⟨_, rfl, fun j => ?_, fun j => ?_, fun j i hi => ?_, fun K h3 h4 h5 => ?_⟩
  · simp (disch := omega) only [am_upK]; exact a3 j
  · simp (disch := omega) only [am_upK]; exact a4 j
  · rw [ps_swp]
    unfold ps_sw
    rw [← aK 5 (by omega) (by omega)]
    rcases (show i = 0 ∨ i = 1 ∨ i = 2 by omega) with rfl | rfl | rfl
    · rw [if_neg (by omega), if_neg (by omega), ps_swp]
      unfold ps_sw
      rw [if_neg (by omega), if_neg (by omega), ps_swp]
      unfold ps_sw
      congr 1
      repeat' split
      all_goals omega
    · rw [if_neg (by omega), if_neg (by omega), ps_swp]
      unfold ps_sw
      by_cases h1 : j = e
      · subst h1
        rw [if_pos rfl, if_pos rfl, am_upI (by omega), am_upI (by omega)]
      · by_cases h2 : j = f
        · subst h2
          rw [if_neg (by omega), if_pos rfl, if_neg h1, if_pos rfl, am_upI (by omega), am_upI (by omega)]
        · rw [if_neg (by omega), if_neg (by omega), if_neg h1, if_neg h2, am_upI (by omega), am_upI (by omega)]
    · by_cases h1 : j = e
      · subst h1
        rw [if_pos rfl, if_pos rfl]
        simp (disch := omega) only [am_upI]
      · by_cases h2 : j = f
        · subst h2
          rw [if_neg (by omega), if_pos rfl, if_neg h1, if_pos rfl]
          simp (disch := omega) only [am_upI]
        · rw [if_neg (by omega), if_neg (by omega), if_neg h1, if_neg h2]
          simp (disch := omega) only [am_upI]
  · simp (disch := omega) only [am_up_ne]
    exact aK K h3 h4
theorem c707_23 (d : Nat) {x y : Nat} (hx : x < 12) (hy : y < 12) {μ : am_Mem} : ∀ k e (μ1 : am_Mem), e = y + k → e ≤ x → ps_rc (ps_cy x e) μ μ1 → ∃ μ', am_ev (am_call (d + 2)) 707 23 [.ref 1, .int (nI x), .int (nI y), .int (nI e)] [] μ1 = am_ret none μ' ∧ ps_rc (ps_cy x y) μ μ' := by
  intro k
  induction k with
  | zero =>
    intro e μ1 h1 h2 h3
    have h1 : e = y := h1
    subst h1
    rw [q707_23, if_pos (by rw [am_leN (by omega) (by omega)]; omega), q707_42]
    exact ⟨_, rfl, h3⟩
  | succ k ih =>
    intro e μ1 h1 h2 h3
    obtain ⟨e', rfl⟩ : ∃ e', e = e' + 1 := ⟨y + k, by omega⟩
    obtain ⟨μ2, g1, g2⟩ := c708 d (e := e' + 1) (f := e') (by omega) (by omega) (by omega) μ1
    rw [q707_23, if_neg (by rw [am_leN (by omega) (by omega)]; omega), show nI (e' + 1) - am_c 1 = nI e' by rw [am_cN, pk_sub (by omega)]; rfl, show nI (e' + 1) + am_c (-1) = nI e' from pk_m1 _, g1, am_bV_ret]
    exact ih e' μ2 (by omega) (by omega) (h3.tr g2 (ps_cy_dn (by omega)))
theorem c707_2 (d : Nat) {x y : Nat} (hx : x < 12) (hy : y < 12) {μ : am_Mem} : ∀ k e (μ1 : am_Mem), e + k = y → x ≤ e → ps_rc (ps_cy x e) μ μ1 → ∃ μ', am_ev (am_call (d + 2)) 707 2 [.ref 1, .int (nI x), .int (nI y), .int (nI e)] [] μ1 = am_ret none μ' ∧ ps_rc (ps_cy x y) μ μ' := by
  intro k
  induction k with
  | zero =>
    intro e μ1 h1 h2 h3
    have h1 : e = y := h1
    subst h1
    rw [q707_2, if_pos (by rw [am_leN (by omega) (by omega)]; omega), q707_21, q707_23, if_pos (by rw [am_leN (by omega) (by omega)]; omega), q707_42]
    exact ⟨_, rfl, h3⟩
  | succ k ih =>
    intro e μ1 h1 h2 h3
    obtain ⟨μ2, g1, g2⟩ := c708 d (e := e) (f := e + 1) (by omega) (by omega) (by omega) μ1
    rw [q707_2, if_neg (by rw [am_leN (by omega) (by omega)]; omega), am_cN, nI_add, g1, am_bV_ret]
    exact ih (e + 1) μ2 (by omega) (by omega) (h3.tr g2 (ps_cy_up (by omega)))
theorem c707 (d : Nat) {x y : Nat} (hx : x < 12) (hy : y < 12) (μ : am_Mem) : ∃ μ', am_call (d + 3) 707 [.ref 1, .int (nI x), .int (nI y)] μ = am_ret none μ' ∧ ps_rc (ps_cy x y) μ μ' := by
  rw [e707, q707_0]
  rcases Nat.le_total x y with h | h
  · exact c707_2 d hx hy (y - x) x μ (by omega) (Nat.le_refl _) (ps_rc.id (ps_cy_id x) μ)
  · rw [q707_2, if_pos (by rw [am_leN (by omega) (by omega)]; omega), q707_21]
    exact c707_23 d hx hy (x - y) x μ (by omega) (Nat.le_refl _) (ps_rc.id (ps_cy_id x) μ)
def ps_drop (O : ps_O) (x : Int32) : Bool × ps_O := if am_ix x < O.S.n then (true, O.fg (ps_pi O.S (O.S.n - 1) (ps_cy (am_ix x) (O.S.n - 1)))) else (false, O)
def ps_move (O : ps_O) (x y : Int32) : Bool × ps_O := if am_ix x < O.S.n ∧ am_ix y < O.S.n then (true, O.fg (ps_pi O.S O.S.n (ps_cy (am_ix x) (am_ix y)))) else (false, O)
theorem ps_Rc.pi {S : ps_S} {μ μ1 μ' : am_Mem} (h : ps_Rc 1 S μ) (hW : ps_Wf S) {n : Nat} {π : Nat → Nat} (hr : ps_rc π μ μ1) (hn : n ≤ S.n) (hπ : ∀ e, e < n → π e < S.n) (e1 : ∀ i, i ≠ 7 → μ' 1 i = μ1 1 i) (e7 : μ' 1 7 = nI n) (eK : ∀ K, K ≠ 1 → K ≠ 37 → μ' K = μ1 K) : ps_Rc 1 (ps_pi S n π) μ' := by
  obtain ⟨h3, h4, h5, h6⟩ := hr
  refine h.ent (fun i hi => by rw [e1 i hi, h6 1 (by omega) (by omega) (by omega)]) (by rw [eK 2 (by omega) (by omega), h6 2 (by omega) (by omega) (by omega)]) (by rw [eK 6 (by omega) (by omega), h6 6 (by omega) (by omega) (by omega)]) e7 (fun e he => ?_) (fun e he => ?_) (fun e i he hi => ?_)
  · rw [eK 3 (by omega) (by omega), h3]; exact h.2.2.2.2.2.2.2.2.1 _ (hπ e he)
  · rw [eK 4 (by omega) (by omega), h4]; exact h.2.2.2.2.2.2.2.2.2.1 _ (hπ e he)
  · have := (hW.e (hπ e he)).2.2.2.2.2.1
    rw [eK 5 (by omega) (by omega), h5 e i (by omega)]; exact h.2.2.2.2.2.2.2.2.2.2.1 _ i (hπ e he) hi
theorem ps_Wf.pi {S : ps_S} (hW : ps_Wf S) {n : Nat} {π : Nat → Nat} (hn : n ≤ S.n) (hπ : ∀ e, e < n → π e < S.n) : ps_Wf (ps_pi S n π) := by
  have h12 : S.n ≤ 12 := hW.2.2.2.2.2.2.1
  exact hW.ent (by omega) (fun e he => hW.2.2.2.2.2.2.2.1 (π e) (hπ e he))
theorem W_drop (O : ps_O) (hO : ps_Ow O) (x : Int32) : ps_Ow (ps_drop O x).2 := by
  unfold ps_drop
  by_cases h : am_ix x < O.S.n
  · rw [if_pos h]; exact hO.fg (S := ps_pi O.S (O.S.n - 1) (ps_cy (am_ix x) (O.S.n - 1))) (hO.1.pi (by omega) (fun e he => ps_cy_lt h (by omega) (by omega))) rfl
  · rw [if_neg h]; exact hO
theorem W_move (O : ps_O) (hO : ps_Ow O) (x y : Int32) : ps_Ow (ps_move O x y).2 := by
  unfold ps_move
  by_cases h : am_ix x < O.S.n ∧ am_ix y < O.S.n
  · rw [if_pos h]; exact hO.fg (S := ps_pi O.S O.S.n (ps_cy (am_ix x) (am_ix y))) (hO.1.pi (by omega) (fun e he => ps_cy_lt h.1 h.2 he)) rfl
  · rw [if_neg h]; exact hO
theorem C_drop (d : Nat) (O : ps_O) (hO : ps_Ow O) (x : Int32) : ps_sC bG (d + 4) 905 [.ref 0, .int x] O (some (.int (nI (ps_drop O x).1.toNat))) (ps_drop O x).2 := by
  intro μ h
  have hR := h.1
  have r8 : μ 1 7 = nI O.S.n := hR.2.2.2.2.2.2.2.1
  have w7 : O.S.n ≤ 12 := hO.1.2.2.2.2.2.2.1
  rw [e905, q905_0, c703 (d + 2) r8 (by omega), am_bI_ret, ps_drop]
  by_cases hc : am_ix x < O.S.n
  · rw [decide_eq_true hc, if_neg (by decide), if_pos hc, q905_13, r8, am_cN, pk_sub (by omega)]
    obtain ⟨a, ha, rfl⟩ : ∃ a, a < O.S.n ∧ x = nI a := ⟨am_ix x, hc, (am_nIx x).symm⟩
    rw [am_ixN (by omega)]
    obtain ⟨μ1, g1, g2⟩ := c707 d (x := a) (y := O.S.n - 1) (by omega) (by omega) μ
    have r8' : μ1 1 7 = nI O.S.n := by rw [g2.2.2.2 1 (by omega) (by omega) (by omega)]; exact r8
    rw [g1, am_bV_ret, r8', pk_sub (by omega), c401, am_bV_ret]
    refine ⟨_, rfl, h.fg (S := ps_pi O.S (O.S.n - 1) (ps_cy a (O.S.n - 1))) (hR.pi hO.1 g2 (by omega) (fun e he => ps_cy_lt ha (by omega) (by omega)) (fun i hi => by rw [am_upK (by omega), am_upI hi]) (by rw [am_upK (by omega), am_upS]) (fun K k1 k2 => by rw [am_up_ne k2, am_up_ne k1])) rfl (fun K h1 h2 h3 h4 h5 h6 h7 => by rw [am_up_ne h7, am_up_ne h1]; exact g2.2.2.2 K h3 h4 h5) (by rw [am_upS]; rfl) (by rw [am_upI (by omega), am_upK (by omega), g2.2.2.2 37 (by omega) (by omega) (by omega)]), fun K hK => by rw [am_up_ne (by omega), am_up_ne (by omega), g2.2.2.2 K (by omega) (by omega) (by omega)]⟩
  · rw [decide_eq_false hc, if_pos (by decide), if_neg hc]
    exact ⟨μ, rfl, h, ps_kC.rf⟩
theorem C_move (d : Nat) (O : ps_O) (hO : ps_Ow O) (x y : Int32) : ps_sC bG (d + 4) 906 [.ref 0, .int x, .int y] O (some (.int (nI (ps_move O x y).1.toNat))) (ps_move O x y).2 := by
  intro μ h
  have hR := h.1
  have r8 : μ 1 7 = nI O.S.n := hR.2.2.2.2.2.2.2.1
  have w7 : O.S.n ≤ 12 := hO.1.2.2.2.2.2.2.1
  rw [e906, q906_0, c703 (d + 2) r8 (by omega), am_bI_ret, c703 (d + 2) r8 (by omega), am_bI_ret, q906_22, ps_move]
  by_cases hx : am_ix x < O.S.n
  · by_cases hy : am_ix y < O.S.n
    · rw [decide_eq_true hx, if_neg (by decide), decide_eq_true hy, if_neg (by decide), if_pos ⟨hx, hy⟩, q906_24]
      obtain ⟨a, ha, rfl⟩ : ∃ a, a < O.S.n ∧ x = nI a := ⟨am_ix x, hx, (am_nIx x).symm⟩
      obtain ⟨b, hb, rfl⟩ : ∃ a, a < O.S.n ∧ y = nI a := ⟨am_ix y, hy, (am_nIx y).symm⟩
      rw [am_ixN (by omega), am_ixN (by omega)]
      obtain ⟨μ1, g1, g2⟩ := c707 d (x := a) (y := b) (by omega) (by omega) μ
      have r8' : μ1 1 7 = nI O.S.n := by rw [g2.2.2.2 1 (by omega) (by omega) (by omega)]; exact r8
      rw [g1, am_bV_ret, c401, am_bV_ret]
      refine ⟨_, rfl, h.fg (S := ps_pi O.S O.S.n (ps_cy a b)) (hR.pi hO.1 g2 (by omega) (fun e he => ps_cy_lt ha hb he) (fun i hi => by rw [am_upK (by omega)]) (by rw [am_upK (by omega)]; exact r8') (fun K k1 k2 => by rw [am_up_ne k2])) rfl (fun K h1 h2 h3 h4 h5 h6 h7 => by rw [am_up_ne h7]; exact g2.2.2.2 K h3 h4 h5) (by rw [am_upS]; rfl) (by rw [am_upI (by omega), g2.2.2.2 37 (by omega) (by omega) (by omega)]), fun K hK => by rw [am_up_ne (by omega), g2.2.2.2 K (by omega) (by omega) (by omega)]⟩
    · rw [decide_eq_true hx, if_neg (by decide), decide_eq_false hy, if_pos (by decide), if_neg (fun z => hy z.2)]
      exact ⟨μ, rfl, h, ps_kC.rf⟩
  · rw [decide_eq_false hx, if_pos (by decide), if_neg (fun z => hx z.1)]
    exact ⟨μ, rfl, h, ps_kC.rf⟩
