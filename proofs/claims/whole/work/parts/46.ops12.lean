/-! drop and move, the model -/
def ps_rm (π : Nat → Nat) (μ μ' : am_Mem) : Prop := (∀ j f, j < 12 → f < 5 → μ' 57 (45 + 5 * j + f) = μ 57 (45 + 5 * π j + f)) ∧ (∀ i, i < 45 ∨ 105 ≤ i → μ' 57 i = μ 57 i) ∧ ∀ K, K ≠ 57 → K ≠ 60 → μ' K = μ K
def ps_cp (e f : Nat) (μ μ' : am_Mem) : Prop := (∀ k, k < 5 → μ' 57 (45 + 5 * f + k) = μ 57 (45 + 5 * e + k)) ∧ (∀ i, i < 45 + 5 * f ∨ 50 + 5 * f ≤ i → μ' 57 i = μ 57 i) ∧ ∀ K, K ≠ 57 → μ' K = μ K
theorem ps_rm.id {π : Nat → Nat} (h : ∀ j, π j = j) (μ : am_Mem) : ps_rm π μ μ := ⟨fun j f _ _ => by rw [h], fun _ _ => rfl, fun _ _ _ => rfl⟩
theorem ps_rm.cp {π ρ : Nat → Nat} {e f : Nat} {μ μ1 μ2 : am_Mem} (h : ps_rm π μ μ1) (h' : ps_cp e f μ1 μ2) (he : e < 12) (hf : f < 12) (hρ : ∀ j, ρ j = if j = f then π e else π j) : ps_rm ρ μ μ2 := by
  obtain ⟨a1, a2, a3⟩ := h
  obtain ⟨b1, b2, b3⟩ := h'
  refine ⟨fun j k hj hk => ?_, fun i hi => by rw [b2 i (by omega), a2 i hi], fun K h1 h2 => by rw [b3 K h1, a3 K h1 h2]⟩
  rw [hρ]
  by_cases hjf : j = f
  · subst hjf
    rw [if_pos rfl, b1 k hk, a1 e k he hk]
  · rw [if_neg hjf, b2 _ (by omega), a1 j k hj hk]
theorem ps_Im.fg2 {O : ps_O} {μ μ' : am_Mem} (h : ps_Im O μ) {S : ps_S} (hR : ps_Rm 57 S μ') (hlaw : S.law = O.S.law) (hl : ∀ i, 435 ≤ i → μ' 57 i = μ 57 i) (e63 : μ' 63 = μ 63) (e58 : μ' 58 = μ 58) (h3 : μ' 56 3 = nI 0) (e56 : ∀ i, i ≠ 3 → μ' 56 i = μ 56 i) : ps_Im (O.fg S) μ' := by
  obtain ⟨-, i2, ⟨i3, i3'⟩, ⟨i4, i4'⟩, -, i9, i10⟩ := h
  refine ⟨hR, ?_, ⟨by rw [e56 13 (by omega)]; exact i3, fun i hi => by rw [e63]; exact i3' i hi⟩, ⟨by rw [e56 20 (by omega)]; exact i4, by rw [e56 22 (by omega)]; exact i4'⟩, ⟨h3, fun j p hp => by have hp : ([] : List ps_P)[j]? = some p := hp; simp at hp⟩, fun hn => by rw [e56 4 (by omega)]; exact i9 hn, fun S' hS => ?_⟩
  · show ps_Lm 57 S.law μ'
    rw [hlaw]
    refine ⟨by rw [hl 435 (by omega)]; exact i2.1, fun l q hq => ?_⟩
    obtain ⟨a1, a2, a3, a4⟩ := i2.2 l q hq
    exact ⟨by rw [hl _ (by omega)]; exact a1, by rw [hl _ (by omega)]; exact a2, by rw [hl _ (by omega)]; exact a3, fun j q' hj => by rw [hl _ (by omega), hl _ (by omega)]; exact a4 j q' hj⟩
  · obtain ⟨a1, a2, a3⟩ := i10 S' hS
    exact ⟨by rw [e56 4 (by omega)]; exact a1, a2.off e58, a3.off e58⟩
theorem m1015 (d : Nat) {e f : Nat} (he : e < 12) (hf : f < 12) (hef : e ≠ f) (μ : am_Mem) : ∃ μ', am_call (d + 2) 1015 [.ref 56, .int (nI e), .int (nI f)] μ = am_ret none μ' ∧ ps_cp e f μ μ' := by
  have st : ∀ (i : Nat) (μ2 : am_Mem), i < 5 → am_ev (am_call (d + 1)) 1015 2 [.ref 56, .int (nI e), .int (nI f), .int (nI i)] [] μ2 = am_ev (am_call (d + 1)) 1015 2 [.ref 56, .int (nI e), .int (nI f), .int (nI (i + 1))] [] (am_up μ2 57 (45 + 5 * f + i) (μ2 57 (45 + 5 * e + i))) := by
    intro i μ2 hi
    rw [q1015_2, if_neg (by rw [am_cN, am_leN (by omega) (by omega)]; omega), m1005 d (by omega), am_bI_ret, m1006 d (by omega), am_bV_ret, am_cN, nI_add]
  rw [e1015, q1015_0, show am_c 0 = nI 0 from rfl, st 0 μ (by omega)]
  rw [st 1 _ (by omega)]
  rw [st 2 _ (by omega)]
  rw [st 3 _ (by omega)]
  rw [st 4 _ (by omega), q1015_2, if_pos (by decide), q1015_25]
  refine ⟨_, rfl, fun k hk => ?_, fun i hi => ?_, fun K hK => ?_⟩
  · rcases (show k = 0 ∨ k = 1 ∨ k = 2 ∨ k = 3 ∨ k = 4 by omega) with rfl | rfl | rfl | rfl | rfl
    all_goals simp (disch := omega) only [am_upI, am_upS]
  · simp (disch := omega) only [am_upI]
  · simp (disch := omega) only [am_up_ne]
theorem ps_Rm.pi {S : ps_S} {μ μ1 μ' : am_Mem} (h : ps_Rm 57 S μ) (hW : ps_Wf S) {n : Nat} {π : Nat → Nat} (hr : ps_rm π μ μ1) (hn : n ≤ S.n) (hπ : ∀ e, e < n → π e < S.n) (e1 : ∀ i, i ≠ 1 → μ' 57 i = μ1 57 i) (e7 : μ' 57 1 = nI n) (σ : Nat → Nat) (hσ : ∀ e, e < n → σ e = π e) : ps_Rm 57 (ps_pi S n σ) μ' := by
  obtain ⟨h3, h4, h5⟩ := hr
  have w7 : S.n ≤ 12 := hW.2.2.2.2.2.2.1
  refine h.ent hW (fun i hi hi2 => by rw [e1 i hi, h4 i (by omega)]) e7 (fun e he => ?_) (fun e he => ?_) (fun e i he hi => ?_)
  · rw [e1 _ (by omega), hσ e he]
    have := h3 e 0 (by omega) (by omega)
    exact this.trans (h.2.2.2.2.2.2.2.2.1 _ (hπ e he))
  · rw [e1 _ (by omega), hσ e he, show 46 + 5 * e = 45 + 5 * e + 1 by omega, h3 e 1 (by omega) (by omega), show 45 + 5 * π e + 1 = 46 + 5 * π e by omega]
    exact h.2.2.2.2.2.2.2.2.2.1 _ (hπ e he)
  · rw [hσ e he] at hi ⊢
    have := (hW.e (hπ e he)).2.2.2.2.2.1
    rw [e1 _ (by omega), show 47 + 5 * e + i = 45 + 5 * e + (2 + i) by omega, h3 e (2 + i) (by omega) (by omega), show 45 + 5 * π e + (2 + i) = 47 + 5 * π e + i by omega]
    exact h.2.2.2.2.2.2.2.2.2.2.1 _ i (hπ e he) hi
def ps_dn (x k j : Nat) : Nat := if x ≤ j ∧ j < k then j + 1 else j
def ps_un (x k j : Nat) : Nat := if k < j ∧ j ≤ x then j - 1 else j
theorem m1016_14 (d : Nat) {x n : Nat} (hx : x < n) (hn : n ≤ 12) {μ : am_Mem} (h1 : μ 57 1 = nI n) : ∀ i k (μ1 : am_Mem), k + i + 1 = n → x ≤ k → ps_rm (ps_dn x k) μ μ1 → ∃ μ', am_ev (am_call (d + 2)) 1016 14 [.ref 56, .int (nI x), .int (nI (k + 1))] [] μ1 = am_ret (some (.int (nI 1))) (am_up (am_up μ' 57 1 (nI (n - 1))) 56 3 (am_c 0)) ∧ ps_rm (ps_dn x (n - 1)) μ μ' := by
  intro i
  induction i with
  | zero =>
    intro k μ1 e1 e2 e3
    have m1 : μ1 57 1 = nI n := by rw [e3.2.1 1 (by omega)]; exact h1
    rw [q1016_14, m1, if_pos (by rw [am_leN (by omega) (by omega)]; omega), q1016_38, m1, am_cN, pk_sub (by omega), m1008 (d + 1), am_bV_ret]
    exact ⟨μ1, rfl, by rw [show n - 1 = k by omega]; exact e3⟩
  | succ i ih =>
    intro k μ1 e1 e2 e3
    have m1 : μ1 57 1 = nI n := by rw [e3.2.1 1 (by omega)]; exact h1
    obtain ⟨μ2, g1, g2⟩ := m1015 d (e := k + 1) (f := k) (by omega) (by omega) (by omega) μ1
    rw [q1016_14, m1, if_neg (by rw [am_leN (by omega) (by omega)]; omega), am_cN, pk_sub (by omega), Nat.add_sub_cancel, g1, am_bV_ret, nI_add]
    refine ih (k + 1) μ2 (by omega) (by omega) (e3.cp g2 (by omega) (by omega) (fun j => ?_))
    unfold ps_dn
    repeat' split
    all_goals omega
theorem M_drop (d : Nat) (O : ps_O) (hO : ps_Ow O) (x : Int32) : ps_sM (d + 4) 1016 [.ref 56, .int x] O (some (.int (nI (ps_drop O x).1.toNat))) (ps_drop O x).2 := by
  intro μ h
  have hR := h.1
  have r8 : μ 57 1 = nI O.S.n := hR.2.2.2.2.2.2.2.1
  have w7 : O.S.n ≤ 12 := hO.1.2.2.2.2.2.2.1
  rw [e1016, q1016_0, m1003 (d + 1) r8 (by omega), am_bI_ret, ps_drop]
  by_cases hc : am_ix x < O.S.n
  · rw [decide_eq_true hc, if_neg (by decide), if_pos hc, q1016_10]
    obtain ⟨a, ha, rfl⟩ : ∃ a, a < O.S.n ∧ x = nI a := ⟨am_ix x, hc, (am_nIx x).symm⟩
    rw [am_ixN (by omega), am_cN, nI_add]
    obtain ⟨μ1, g1, g2⟩ := m1016_14 (d + 1) ha w7 r8 (O.S.n - 1 - a) a μ (by omega) (by omega) (ps_rm.id (fun j => by unfold ps_dn; rw [if_neg (by omega)]) μ)
    rw [g1]
    refine ⟨_, rfl, h.fg2 (S := ps_pi O.S (O.S.n - 1) (ps_cy a (O.S.n - 1))) (hR.pi hO.1 (μ1 := μ1) (π := ps_dn a (O.S.n - 1)) g2 (by omega) (fun e he => by unfold ps_dn; split <;> omega) (fun i hi => by rw [am_upK (by omega), am_upI hi]) (by rw [am_upK (by omega), am_upS]) _ (fun e he => ?_)) rfl (fun i hi => by rw [am_upK (by omega), am_upI (by omega), g2.2.1 i (by omega)]) (by rw [am_up_ne (by omega), am_up_ne (by omega), g2.2.2 63 (by omega) (by omega)]) (by rw [am_up_ne (by omega), am_up_ne (by omega), g2.2.2 58 (by omega) (by omega)]) (by rw [am_upS]; rfl) (fun i hi => by rw [am_upI hi, am_upK (by omega), g2.2.2 56 (by omega) (by omega)]), fun K hK => by rw [am_up_ne (by omega), am_up_ne (by omega), g2.2.2 K (by omega) (by omega)]⟩
    · unfold ps_cy ps_dn
      repeat' split
      all_goals omega
  · rw [decide_eq_false hc, if_pos (by decide), if_neg hc]
    exact ⟨μ, rfl, h, ps_kM.rf⟩
theorem m1017_45 (d : Nat) {x y : Nat} (hx : x < 12) (hy : y < 12) {μ : am_Mem} {g : Nat → Int32} : ∀ i k (μ1 : am_Mem), k + i = y → x ≤ k → ps_rm (ps_dn x k) μ μ1 → (∀ f, f < 5 → μ1 60 f = g f) → ∃ μ', am_ev (am_call (d + 2)) 1017 45 [.ref 56, .int (nI x), .int (nI y), .int (nI k)] [] μ1 = am_ev (am_call (d + 2)) 1017 85 [.ref 56, .int (nI x), .int (nI y), .int (nI x)] [] μ' ∧ ps_rm (ps_dn x y) μ μ' ∧ ∀ f, f < 5 → μ' 60 f = g f := by
  intro i
  induction i with
  | zero =>
    intro k μ1 e1 e2 e3 e4
    have e1 : k = y := e1
    subst e1
    rw [q1017_45, if_pos (by rw [am_leN (by omega) (by omega)]; omega), q1017_64, q1017_66, if_pos (by rw [am_leN (by omega) (by omega)]; omega)]
    exact ⟨μ1, rfl, e3, e4⟩
  | succ i ih =>
    intro k μ1 e1 e2 e3 e4
    obtain ⟨μ2, g1, g2⟩ := m1015 d (e := k + 1) (f := k) (by omega) (by omega) (by omega) μ1
    rw [q1017_45, if_neg (by rw [am_leN (by omega) (by omega)]; omega), am_cN, nI_add, g1, am_bV_ret]
    refine ih (k + 1) μ2 (by omega) (by omega) (e3.cp g2 (by omega) (by omega) (fun j => ?_)) (fun f hf => by rw [g2.2.2 60 (by omega)]; exact e4 f hf)
    unfold ps_dn
    repeat' split
    all_goals omega
theorem m1017_66 (d : Nat) {x y : Nat} (hx : x < 12) (hy : y < 12) {μ : am_Mem} {g : Nat → Int32} : ∀ i k (μ1 : am_Mem), y + i = k → k ≤ x → ps_rm (ps_un x k) μ μ1 → (∀ f, f < 5 → μ1 60 f = g f) → ∃ μ' k', am_ev (am_call (d + 2)) 1017 66 [.ref 56, .int (nI x), .int (nI y), .int (nI k)] [] μ1 = am_ev (am_call (d + 2)) 1017 85 [.ref 56, .int (nI x), .int (nI y), .int k'] [] μ' ∧ ps_rm (ps_un x y) μ μ' ∧ ∀ f, f < 5 → μ' 60 f = g f := by
  intro i
  induction i with
  | zero =>
    intro k μ1 e1 e2 e3 e4
    have e1 : y = k := e1
    subst e1
    rw [q1017_66, if_pos (by rw [am_leN (by omega) (by omega)]; omega)]
    exact ⟨μ1, _, rfl, e3, e4⟩
  | succ i ih =>
    intro k μ1 e1 e2 e3 e4
    obtain ⟨k', rfl⟩ : ∃ k', k = k' + 1 := ⟨y + i, by omega⟩
    obtain ⟨μ2, g1, g2⟩ := m1015 d (e := k') (f := k' + 1) (by omega) (by omega) (by omega) μ1
    rw [q1017_66, if_neg (by rw [am_leN (by omega) (by omega)]; omega), show nI (k' + 1) - am_c 1 = nI k' by rw [am_cN, pk_sub (by omega)]; rfl, show nI (k' + 1) + am_c (-1) = nI k' from pk_m1 _, g1, am_bV_ret]
    refine ih k' μ2 (by omega) (by omega) (e3.cp g2 (by omega) (by omega) (fun j => ?_)) (fun f hf => by rw [g2.2.2 60 (by omega)]; exact e4 f hf)
    unfold ps_un
    repeat' split
    all_goals omega
theorem m1017_85 (d : Nat) {x y : Nat} (hx : x < 12) (hy : y < 12) {π ρ : Nat → Nat} {μ μ1 : am_Mem} (k : Int32) (h : ps_rm π μ μ1) (h6 : ∀ f, f < 5 → μ1 60 f = μ 57 (45 + 5 * x + f)) (hρ : ∀ j, ρ j = if j = y then x else π j) : ∃ μ', am_ev (am_call (d + 2)) 1017 85 [.ref 56, .int (nI x), .int (nI y), .int k] [] μ1 = am_ret (some (.int (nI 1))) (am_up μ' 56 3 (am_c 0)) ∧ ps_rm ρ μ μ' := by
  have st : ∀ (i : Nat) (μ2 : am_Mem), i < 5 → am_ev (am_call (d + 2)) 1017 87 [.ref 56, .int (nI x), .int (nI y), .int (nI i)] [] μ2 = am_ev (am_call (d + 2)) 1017 87 [.ref 56, .int (nI x), .int (nI y), .int (nI (i + 1))] [] (am_up μ2 57 (45 + 5 * y + i) (μ2 60 i)) := by
    intro i μ2 hi
    rw [q1017_87, if_neg (by rw [am_cN, am_leN (by omega) (by omega)]; omega), am_ixN (by omega), am_gbI (by omega), m1006 (d + 1) (by omega), am_bV_ret, am_cN, nI_add]
  rw [q1017_85, show am_c 0 = nI 0 from rfl, st 0 _ (by omega)]
  rw [st 1 _ (by omega)]
  rw [st 2 _ (by omega)]
  rw [st 3 _ (by omega)]
  rw [st 4 _ (by omega), q1017_87, if_pos (by decide), q1017_110, m1008 (d + 1), am_bV_ret]
  obtain ⟨a1, a2, a3⟩ := h
  refine ⟨_, rfl, fun j f hj hf => ?_, fun i hi => ?_, fun K h1 h2 => ?_⟩
  · rw [hρ]
    by_cases hjy : j = y
    · subst hjy
      rw [if_pos rfl, ← h6 f hf]
      rcases (show f = 0 ∨ f = 1 ∨ f = 2 ∨ f = 3 ∨ f = 4 by omega) with rfl | rfl | rfl | rfl | rfl
      all_goals simp (disch := omega) only [am_upI, am_upS, am_upK]
    · rw [if_neg hjy, ← a1 j f hj hf]
      simp (disch := omega) only [am_upI]
  · rw [← a2 i hi]
    simp (disch := omega) only [am_upI]
  · rw [← a3 K h1 h2]
    simp (disch := omega) only [am_up_ne]
theorem m1017_18 (d : Nat) {x y : Nat} (hx : x < 12) (hy : y < 12) {μ : am_Mem} (v : Value) : ∃ μ', am_ev (am_call (d + 2)) 1017 18 [.ref 56, .int (nI x), .int (nI y), v] [] μ = am_ret (some (.int (nI 1))) (am_up μ' 56 3 (am_c 0)) ∧ ps_rm (ps_cy x y) μ μ' := by
  have st : ∀ (i : Nat) (μ2 : am_Mem), i < 5 → am_ev (am_call (d + 2)) 1017 20 [.ref 56, .int (nI x), .int (nI y), .int (nI i)] [] μ2 = am_ev (am_call (d + 2)) 1017 20 [.ref 56, .int (nI x), .int (nI y), .int (nI (i + 1))] [] (am_up μ2 60 i (μ2 57 (45 + 5 * x + i))) := by
    intro i μ2 hi
    rw [q1017_20, if_neg (by rw [am_cN, am_leN (by omega) (by omega)]; omega), m1005 (d + 1) (by omega), am_bI_ret, am_ixN (by omega), am_gbI (by omega), am_cN, nI_add]
  have go : ∃ μ1, am_ev (am_call (d + 2)) 1017 18 [.ref 56, .int (nI x), .int (nI y), v] [] μ = am_ev (am_call (d + 2)) 1017 45 [.ref 56, .int (nI x), .int (nI y), .int (nI x)] [] μ1 ∧ (∀ K, K ≠ 60 → μ1 K = μ K) ∧ ∀ f, f < 5 → μ1 60 f = μ 57 (45 + 5 * x + f) := by
    rw [show am_ev (am_call (d + 2)) 1017 18 [.ref 56, .int (nI x), .int (nI y), v] [] μ = am_ev (am_call (d + 2)) 1017 20 [.ref 56, .int (nI x), .int (nI y), .int (nI 0)] [] μ from q1017_18 _ _ _ _ _, st 0 _ (by omega)]
    rw [st 1 _ (by omega)]
    rw [st 2 _ (by omega)]
    rw [st 3 _ (by omega)]
    rw [st 4 _ (by omega), q1017_20, if_pos (by decide), q1017_43]
    refine ⟨_, rfl, fun K hK => ?_, fun f hf => ?_⟩
    · simp (disch := omega) only [am_up_ne]
    · rcases (show f = 0 ∨ f = 1 ∨ f = 2 ∨ f = 3 ∨ f = 4 by omega) with rfl | rfl | rfl | rfl | rfl
      all_goals simp (disch := omega) only [am_upI, am_upS, am_upK]
  obtain ⟨μ1, g1, g2, g3⟩ := go
  have idn : ∀ π : Nat → Nat, (∀ j, π j = j) → ps_rm π μ μ1 := fun π hπ => ⟨fun j f _ _ => by rw [hπ, g2 57 (by omega)], fun i _ => by rw [g2 57 (by omega)], fun K _ h2 => g2 K h2⟩
  rw [g1]
  rcases Nat.le_total x y with hxy | hxy
  · obtain ⟨μ2, k1, k2, k3⟩ := m1017_45 d hx hy (y - x) x μ1 (by omega) (by omega) (idn (ps_dn x x) (fun j => by unfold ps_dn; rw [if_neg (by omega)])) g3
    rw [k1]
    refine m1017_85 d hx hy _ k2 k3 (fun j => ?_)
    unfold ps_cy ps_dn
    repeat' split
    all_goals omega
  · rw [q1017_45, if_pos (by rw [am_leN (by omega) (by omega)]; omega), q1017_64]
    obtain ⟨μ2, k', k1, k2, k3⟩ := m1017_66 d hx hy (x - y) x μ1 (by omega) (by omega) (idn (ps_un x x) (fun j => by unfold ps_un; rw [if_neg (by omega)])) g3
    rw [k1]
    refine m1017_85 d hx hy _ k2 k3 (fun j => ?_)
    unfold ps_cy ps_un
    repeat' split
    all_goals omega
theorem M_move (d : Nat) (O : ps_O) (hO : ps_Ow O) (x y : Int32) : ps_sM (d + 4) 1017 [.ref 56, .int x, .int y] O (some (.int (nI (ps_move O x y).1.toNat))) (ps_move O x y).2 := by
  intro μ h
  have hR := h.1
  have r8 : μ 57 1 = nI O.S.n := hR.2.2.2.2.2.2.2.1
  have w7 : O.S.n ≤ 12 := hO.1.2.2.2.2.2.2.1
  rw [e1017, q1017_0, m1003 (d + 1) r8 (by omega), am_bI_ret, m1003 (d + 1) r8 (by omega), am_bI_ret, q1017_16, ps_move]
  by_cases hx : am_ix x < O.S.n
  · by_cases hy : am_ix y < O.S.n
    · rw [decide_eq_true hx, if_neg (by decide), decide_eq_true hy, if_neg (by decide), if_pos ⟨hx, hy⟩]
      obtain ⟨a, ha, rfl⟩ : ∃ a, a < O.S.n ∧ x = nI a := ⟨am_ix x, hx, (am_nIx x).symm⟩
      obtain ⟨b, hb, rfl⟩ : ∃ a, a < O.S.n ∧ y = nI a := ⟨am_ix y, hy, (am_nIx y).symm⟩
      rw [am_ixN (by omega), am_ixN (by omega)]
      obtain ⟨μ1, g1, g2⟩ := m1017_18 (d + 1) (x := a) (y := b) (by omega) (by omega) (μ := μ) .null
      rw [g1]
      have r8' : μ1 57 1 = nI O.S.n := by rw [g2.2.1 1 (by omega)]; exact r8
      refine ⟨_, rfl, h.fg2 (S := ps_pi O.S O.S.n (ps_cy a b)) (hR.pi hO.1 (μ1 := μ1) (π := ps_cy a b) g2 (by omega) (fun e he => ps_cy_lt ha hb he) (fun i hi => by rw [am_upK (by omega)]) (by rw [am_upK (by omega)]; exact r8') _ (fun e he => rfl)) rfl (fun i hi => by rw [am_upK (by omega), g2.2.1 i (by omega)]) (by rw [am_up_ne (by omega), g2.2.2 63 (by omega) (by omega)]) (by rw [am_up_ne (by omega), g2.2.2 58 (by omega) (by omega)]) (by rw [am_upS]; rfl) (fun i hi => by rw [am_upI hi, g2.2.2 56 (by omega) (by omega)]), fun K hK => by rw [am_up_ne (by omega), g2.2.2 K (by omega) (by omega)]⟩
    · rw [decide_eq_true hx, if_neg (by decide), decide_eq_false hy, if_pos (by decide), if_neg (fun z => hy z.2)]
      exact ⟨μ, rfl, h, ps_kM.rf⟩
  · rw [decide_eq_false hx, if_pos (by decide), if_neg (fun z => hx z.1)]
    exact ⟨μ, rfl, h, ps_kM.rf⟩
