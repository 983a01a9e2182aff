variable {bG : Nat}
/-! editions: what is kept, and the whole -/
def ps_O.keep (O : ps_O) : ps_O := (O.S, O.tl, O.tp, O.fk, O.fp, ((O.S.sta, O.S.bn, O.S.us) :: O.past).take 6, O.img)
def ps_O.dic (O : ps_O) (S : ps_S) : ps_O := (S, O.tl, O.tp, O.fk, O.fp, O.past, O.img)
theorem ps_tk {α : Type} {x p : α} {l : List α} {j : Nat} (h : ((x :: l).take 6)[j]? = some p) : (j = 0 ∧ p = x) ∨ ∃ i, j = i + 1 ∧ i < 5 ∧ l[i]? = some p := by
  rw [List.getElem?_take] at h
  by_cases hj : j < 6
  · rw [if_pos hj] at h
    cases j with
    | zero =>
      rw [List.getElem?_cons_zero] at h
      exact Or.inl ⟨rfl, (Option.some.inj h).symm⟩
    | succ i =>
      rw [List.getElem?_cons_succ] at h
      exact Or.inr ⟨i, rfl, by omega, h⟩
  · rw [if_neg hj] at h
    exact absurd h (by simp)
theorem am_gbL {a b : Nat} (h : a ≤ b) (R : am_R) : am_gb (Nat.ble a b) R = R := by
  rw [Nat.ble_eq_true_of_le h]; rfl
theorem c2004a (d : Nat) {b : Nat} (hb : b + 36 ≤ 216) (μ : am_Mem) : am_call (d + 1) 2004 [.ref 5, .int (am_c 0), .ref 40, .int (nI b), .int 36] μ = am_ret none (am_cp μ 5 40 0 b 36) := by
  show am_gb (Nat.ble (0 + 36) 36) (am_gb (Nat.ble (am_ix (nI b) + 36) 216) (am_ret none (am_cp μ 5 40 0 (am_ix (nI b)) 36))) = _
  rw [am_ixN (by omega), am_gbL (by omega), am_gbL (by omega)]
theorem c2004b (d : Nat) {b : Nat} (hb : b + 36 ≤ 216) (μ : am_Mem) : am_call (d + 1) 2004 [.ref 40, .int (nI b), .ref 5, .int (am_c 0), .int 36] μ = am_ret none (am_cp μ 40 5 b 0 36) := by
  show am_gb (Nat.ble (am_ix (nI b) + 36) 216) (am_gb (Nat.ble (0 + 36) 36) (am_ret none (am_cp μ 40 5 (am_ix (nI b)) 0 36))) = _
  rw [am_ixN (by omega), am_gbL (by omega), am_gbL (by omega)]
theorem am_cpS (μ : am_Mem) (K0 K1 sp dp n : Nat) : am_cp μ K0 K1 sp dp n K1 = va_cpy (μ K0) (μ K1) sp dp n := by rw [am_cp, if_pos rfl]
theorem am_cpK {μ : am_Mem} {K0 K1 sp dp n K : Nat} (h : K ≠ K1) : am_cp μ K0 K1 sp dp n K = μ K := by rw [am_cp, if_neg h]
def ps_nw (nw : Nat) : Nat := if nw + 1 < 6 then nw + 1 else 0
def ps_ln (L : Nat) : Nat := if L < 6 then L + 1 else L
theorem c402 (d : Nat) {μ : am_Mem} {nw L bn : Nat} {sta : Int32} (h3 : μ 37 3 = nI nw) (h4 : μ 37 4 = nI L) (h0 : μ 1 0 = sta) (h11 : μ 1 11 = nI bn) (hnw : nw < 6) (hL : L ≤ 6) : ∃ μ', am_call (d + 2) 402 [.ref 37, .ref 1] μ = am_ret none μ' ∧ μ' 37 3 = nI (ps_nw nw) ∧ μ' 37 4 = nI (ps_ln L) ∧ μ' 38 (ps_nw nw) = sta ∧ (∀ j, j ≠ ps_nw nw → μ' 38 j = μ 38 j) ∧ μ' 39 (ps_nw nw) = nI bn ∧ (∀ j, j ≠ ps_nw nw → μ' 39 j = μ 39 j) ∧ (∀ j, μ' 40 j = if ps_nw nw * 36 ≤ j ∧ j < ps_nw nw * 36 + 36 then μ 5 (j - ps_nw nw * 36) else μ 40 j) ∧ ps_off [37, 38, 39, 40] μ μ' := by
  have n6 : ps_nw nw < 6 := by unfold ps_nw; split <;> omega
  have st : ∀ μ1 : am_Mem, μ1 37 3 = nI (ps_nw nw) → μ1 37 4 = nI (ps_ln L) → (∀ K, K ≠ 37 → μ1 K = μ K) → ∃ μ', am_ev (am_call (d + 1)) 402 44 [.ref 37, .ref 1] [] μ1 = am_ret none μ' ∧ μ' 37 3 = nI (ps_nw nw) ∧ μ' 37 4 = nI (ps_ln L) ∧ μ' 38 (ps_nw nw) = sta ∧ (∀ j, j ≠ ps_nw nw → μ' 38 j = μ 38 j) ∧ μ' 39 (ps_nw nw) = nI bn ∧ (∀ j, j ≠ ps_nw nw → μ' 39 j = μ 39 j) ∧ (∀ j, μ' 40 j = if ps_nw nw * 36 ≤ j ∧ j < ps_nw nw * 36 + 36 then μ 5 (j - ps_nw nw * 36) else μ 40 j) ∧ ps_off [37, 38, 39, 40] μ μ' := by
    intro μ1 a3 a4 aK
    rw [q402_44]
    simp (disch := omega) only [am_upK, a3, am_ixN, am_gbI, am_cN, pk_mul, aK 1 (by omega), h0, h11, show (36 : Int32) = nI 36 from rfl]
    rw [show nI 0 = am_c 0 from rfl, show am_call (d + 1) 2004 [.ref 5, .int (am_c 0), .ref 40, .int (nI (ps_nw nw * 36)), .int (nI 36)] (am_up (am_up μ1 38 (ps_nw nw) sta) 39 (ps_nw nw) (nI bn)) = _ from c2004a d (by omega) _, am_bV_ret]
    refine ⟨_, rfl, ?_, ?_, ?_, fun j hj => ?_, ?_, fun j hj => ?_, fun j => ?_, fun K hK => ?_⟩
    · rw [am_cpK (by omega), am_upK (by omega), am_upK (by omega)]; exact a3
    · rw [am_cpK (by omega), am_upK (by omega), am_upK (by omega)]; exact a4
    · rw [am_cpK (by omega), am_upK (by omega), am_upS]
    · rw [am_cpK (by omega), am_upK (by omega), am_upI hj, aK 38 (by omega)]
    · rw [am_cpK (by omega), am_upS]
    · rw [am_cpK (by omega), am_upI hj, am_upK (by omega), aK 39 (by omega)]
    · rw [am_cpS]
      by_cases hc : ps_nw nw * 36 ≤ j ∧ j < ps_nw nw * 36 + 36
      · rw [if_pos hc, pk_cpy_in hc.1 hc.2, am_upK (by omega), am_upK (by omega), aK 5 (by omega), Nat.zero_add]
      · rw [if_neg hc, pk_cpy_out (by omega), am_upK (by omega), am_upK (by omega), aK 40 (by omega)]
    · have hK : K ≠ 37 ∧ K ≠ 38 ∧ K ≠ 39 ∧ K ≠ 40 := by simpa using hK
      rw [am_cpK hK.2.2.2, am_up_ne hK.2.2.1, am_up_ne hK.2.1, aK K hK.1]
  have s2 : ∀ n : Nat, n = ps_nw nw → ∃ μ', am_ev (am_call (d + 1)) 402 22 [.ref 37, .ref 1] [.int (nI n), .ref 37] μ = am_ret none μ' ∧ μ' 37 3 = nI (ps_nw nw) ∧ μ' 37 4 = nI (ps_ln L) ∧ μ' 38 (ps_nw nw) = sta ∧ (∀ j, j ≠ ps_nw nw → μ' 38 j = μ 38 j) ∧ μ' 39 (ps_nw nw) = nI bn ∧ (∀ j, j ≠ ps_nw nw → μ' 39 j = μ 39 j) ∧ (∀ j, μ' 40 j = if ps_nw nw * 36 ≤ j ∧ j < ps_nw nw * 36 + 36 then μ 5 (j - ps_nw nw * 36) else μ 40 j) ∧ ps_off [37, 38, 39, 40] μ μ' := by
    intro n hn
    subst hn
    rw [q402_22, am_upI (by omega), h4]
    by_cases hc : L < 6
    · rw [if_neg (by rw [am_cN, am_leN (by omega) (by omega)]; omega), am_cN, nI_add]
      exact st _ (by rw [am_upI (by omega), am_upS]) (by rw [am_upS, ps_ln, if_pos hc]) (fun K hK => by rw [am_up_ne hK, am_up_ne hK])
    · rw [if_pos (by rw [am_cN, am_leN (by omega) (by omega)]; omega)]
      exact st _ (by rw [am_upS]) (by rw [am_upI (by omega), h4, ps_ln, if_neg hc]) (fun K hK => by rw [am_up_ne hK])
  rw [e402, q402_0, h3, am_cN, am_cN, nI_add]
  by_cases hc : nw + 1 < 6
  · rw [if_neg (by rw [am_leN (by omega) (by omega)]; omega)]
    exact s2 _ (by rw [ps_nw, if_pos hc])
  · rw [if_pos (by rw [am_leN (by omega) (by omega)]; omega), q402_21]
    exact s2 0 (by rw [ps_nw, if_neg hc])
theorem C_keep (d : Nat) {O : ps_O} {μ : am_Mem} (h : ps_Ic bG O μ) (hO : ps_Ow O) : ∃ μ', am_call (d + 2) 402 [.ref 37, .ref 1] μ = am_ret none μ' ∧ ps_Ic bG O.keep μ' ∧ ps_off [37, 38, 39, 40] μ μ' := by
  obtain ⟨i1, i2, i3, i4, ⟨i5, nw, i6, i7, i8⟩, i9, i10, i11⟩ := h
  have l6 : O.past.length ≤ 6 := hO.2.2.2.2.1
  have s0 : μ 1 0 = O.S.sta := i1.2.2.2.2.2.2.1
  have s11 : μ 1 11 = nI O.S.bn := i1.2.2.2.2.2.2.2.2.2.2.2.1
  obtain ⟨μ', g0, g1, g2, g3, g4, g5, g6, g7, g8⟩ := c402 d i7 i5 s0 s11 i6 l6
  refine ⟨μ', g0, ?_, g8⟩
  have ee : ∀ K, K ≠ 37 → K ≠ 38 → K ≠ 39 → K ≠ 40 → μ' K = μ K := fun K h1 h2 h3 h4 => g8 K (by simp [h1, h2, h3, h4])
  have n6 : ps_nw nw < 6 := by unfold ps_nw; split <;> omega
  refine ⟨i1.off (fun k hk => ee _ (by omega) (by omega) (by omega) (by omega)), i2.off (ee _ (by omega) (by omega) (by omega) (by omega)) (ee _ (by omega) (by omega) (by omega) (by omega)) (ee _ (by omega) (by omega) (by omega) (by omega)) (ee _ (by omega) (by omega) (by omega) (by omega)), ?_, ?_, ⟨?_, ps_nw nw, n6, g1, fun j p hp => ?_⟩, fun hn => by rw [ee 0 (by omega) (by omega) (by omega) (by omega)]; exact i9 hn, fun S' hS => ?_, ?_⟩
  · rw [ee 0 (by omega) (by omega) (by omega) (by omega), ee 25 (by omega) (by omega) (by omega) (by omega)]; exact i3
  · rw [ee 26 (by omega) (by omega) (by omega) (by omega)]; exact i4
  · show μ' 37 4 = nI (((O.S.sta, O.S.bn, O.S.us) :: O.past).take 6).length
    rw [g2, ps_ln, List.length_take, List.length_cons]
    by_cases hc : O.past.length < 6
    · rw [if_pos hc, Nat.min_eq_right (by omega)]
    · rw [if_neg hc, Nat.min_eq_left (by omega), show O.past.length = 6 by omega]
  · have hct : ∀ e, e < O.S.n → O.S.ct e ≤ 3 ∧ e < 12 := fun e he => ⟨(hO.1.e he).2.2.2.2.2.1, (hO.1.e he).2.2.1⟩
    rcases ps_tk hp with ⟨rfl, rfl⟩ | ⟨i, rfl, hi, hp'⟩
    · rw [show (ps_nw nw + 6 - 0) % 6 = ps_nw nw by omega]
      refine ⟨g3, g5, fun e i he hi => ?_⟩
      have := hct e he
      have hi : i < O.S.ct e := hi
      rw [g7, if_pos (by omega), Nat.add_sub_cancel_left]
      exact i1.2.2.2.2.2.2.2.2.2.2.1 e i he hi
    · have es : (ps_nw nw + 6 - (i + 1)) % 6 = (nw + 6 - i) % 6 := by unfold ps_nw; split <;> omega
      have ne : (nw + 6 - i) % 6 ≠ ps_nw nw := by unfold ps_nw; split <;> omega
      have l6' : (nw + 6 - i) % 6 < 6 := Nat.mod_lt _ (by omega)
      obtain ⟨a1, a2, a3⟩ := i8 i p hp'
      rw [es]
      refine ⟨by rw [g4 _ ne]; exact a1, by rw [g6 _ ne]; exact a2, fun e i' he hi' => ?_⟩
      have := hct e he
      have hi' : i' < O.S.ct e := hi'
      rw [g7, if_neg (by omega)]
      exact a3 e i' he hi'
  · obtain ⟨a1, a2, a3⟩ := i10 S' hS
    exact ⟨by rw [ee 0 (by omega) (by omega) (by omega) (by omega)]; exact a1, a2.off (fun k hk => ee _ (by omega) (by omega) (by omega) (by omega)), a3.off (ee _ (by omega) (by omega) (by omega) (by omega)) (ee _ (by omega) (by omega) (by omega) (by omega)) (ee _ (by omega) (by omega) (by omega) (by omega)) (ee _ (by omega) (by omega) (by omega) (by omega))⟩
  · rw [ee 48 (by omega) (by omega) (by omega) (by omega), ee 55 (by omega) (by omega) (by omega) (by omega)]; exact i11
/-- another dictionary with the same entries' shape -/
theorem ps_Ic.dic {O : ps_O} {μ μ' : am_Mem} (h : ps_Ic bG O μ) {S : ps_S} (hs : ps_sm O.S S) (hR : ps_Rc 1 S μ') (ho : ps_off [1, 5, 6] μ μ') : ps_Ic bG (O.dic S) μ' := by
  obtain ⟨i1, i2, i3, i4, ⟨i5, nw, i6, i7, i8⟩, i9, i10, i11⟩ := h
  have ee : ∀ K, K ≠ 1 → K ≠ 5 → K ≠ 6 → μ' K = μ K := fun K h1 h2 h3 => ho K (by simp [h1, h2, h3])
  refine ⟨hR, ?_, ?_, ?_, ⟨?_, nw, i6, ?_, fun j p hp => ?_⟩, fun hn => by rw [ee 0 (by omega) (by omega) (by omega)]; exact i9 hn, fun S' hS => ?_, ?_⟩
  · show ps_Lc 7 S.law μ'
    rw [hs.2.2.2.2.1]
    exact i2.off (ee _ (by omega) (by omega) (by omega)) (ee _ (by omega) (by omega) (by omega)) (ee _ (by omega) (by omega) (by omega)) (ee _ (by omega) (by omega) (by omega))
  · rw [ee 0 (by omega) (by omega) (by omega), ee 25 (by omega) (by omega) (by omega)]; exact i3
  · rw [ee 26 (by omega) (by omega) (by omega)]; exact i4
  · rw [ee 37 (by omega) (by omega) (by omega)]; exact i5
  · rw [ee 37 (by omega) (by omega) (by omega)]; exact i7
  · obtain ⟨a1, a2, a3⟩ := i8 j p hp
    refine ⟨by rw [ee 38 (by omega) (by omega) (by omega)]; exact a1, by rw [ee 39 (by omega) (by omega) (by omega)]; exact a2, fun e i he hi => ?_⟩
    have he : e < S.n := he
    have hi : i < S.ct e := hi
    rw [hs.2.1] at he
    rw [hs.2.2.2.1] at hi
    rw [ee 40 (by omega) (by omega) (by omega)]
    exact a3 e i he hi
  · obtain ⟨a1, a2, a3⟩ := i10 S' hS
    exact ⟨by rw [ee 0 (by omega) (by omega) (by omega)]; exact a1, a2.off (fun k hk => ee _ (by omega) (by omega) (by omega)), a3.off (ee _ (by omega) (by omega) (by omega)) (ee _ (by omega) (by omega) (by omega)) (ee _ (by omega) (by omega) (by omega)) (ee _ (by omega) (by omega) (by omega))⟩
  · rw [ee 48 (by omega) (by omega) (by omega), ee 55 (by omega) (by omega) (by omega)]; exact i11
def ps_edO (O : ps_O) : ps_O := O.keep.dic (ps_edition O.S).2
def ps_edN : Nat → ps_O → Nat → Nat × ps_O
  | 0, O, c => (c, O)
  | k + 1, O, c => ps_edN k (ps_edO O) (c + (ps_edition O.S).1)
theorem W_edO {O : ps_O} (hO : ps_Ow O) (hed : O.S.ed + 1 ≤ 9999) : ps_Ow (ps_edO O) ∧ (ps_edO O).S.ed = O.S.ed + 1 := by
  have g := ps_edL_sm O.S.n O.S 0 0 hO.1 (by omega) hed
  obtain ⟨o1, o2, o3, o4, o5, o6, o7, o8⟩ := hO
  refine ⟨⟨g.2.1, ?_, o3, o4, ?_, ?_, fun j p hp => ?_, o8⟩, g.2.2.1⟩
  · show ps_Lw (ps_edition O.S).2.law
    rw [show (ps_edition O.S).2.law = O.S.law from g.1.2.2.2.2.1]; exact o2
  · show (((O.S.sta, O.S.bn, O.S.us) :: O.past).take 6).length ≤ 6
    rw [List.length_take]; omega
  · show (((O.S.sta, O.S.bn, O.S.us) :: O.past).take 6).length ≤ (ps_edition O.S).2.ed
    rw [show (ps_edition O.S).2.ed = O.S.ed + 1 from g.2.2.1, List.length_take, List.length_cons]; omega
  · have hb : O.S.bn ≤ (ps_edition O.S).2.bn := g.1.2.2.2.2.2.1
    have uw : ∀ us, ps_Uw O.S us → ps_Uw (ps_edition O.S).2 us := fun us hu e he => by
      have he : e < (ps_edition O.S).2.n := he
      rw [show (ps_edition O.S).2.n = O.S.n from g.1.2.1] at he
      rw [show (ps_edition O.S).2.ct = O.S.ct from g.1.2.2.2.1, show (ps_edition O.S).2.w = O.S.w from g.1.1, show (ps_edition O.S).2.hd = O.S.hd from g.1.2.2.1]
      exact hu e he
    have hp : (((O.S.sta, O.S.bn, O.S.us) :: O.past).take 6)[j]? = some p := hp
    rcases ps_tk hp with ⟨rfl, rfl⟩ | ⟨i, rfl, hi, hp'⟩
    · refine ⟨hb, uw _ (fun e he => ⟨(o1.2.2.2.2.2.2.2.1 e he).2.2.2.1, (o1.2.2.2.2.2.2.2.1 e he).2.2.2.2⟩), fun q hq => ?_⟩
      have hq : (((O.S.sta, O.S.bn, O.S.us) :: O.past).take 6)[0 + 1]? = some q := hq
      rcases ps_tk hq with ⟨h0, -⟩ | ⟨i, hi0, hi, hq'⟩
      · omega
      · have : i = 0 := by omega
        subst this
        exact (o7 0 q hq').1
    · obtain ⟨a1, a2, a3⟩ := o7 i p hp'
      refine ⟨Nat.le_trans a1 hb, uw _ a2, fun q hq => ?_⟩
      have hq : (((O.S.sta, O.S.bn, O.S.us) :: O.past).take 6)[i + 1 + 1]? = some q := hq
      rcases ps_tk hq with ⟨h0, -⟩ | ⟨i', hi0, hi, hq'⟩
      · omega
      · have : i' = i + 1 := by omega
        subst this
        exact a3 q hq'
theorem W_keep {O : ps_O} (hO : ps_Ow O) : ps_Wf O.keep.S := hO.1
theorem C_edO (d : Nat) {O : ps_O} {μ : am_Mem} (h : ps_Ic bG O μ) (hO : ps_Ow O) (hed : O.S.ed + 1 ≤ 9999) : ∃ μ1 μ2, am_call (d + 4) 402 [.ref 37, .ref 1] μ = am_ret none μ1 ∧ am_call (d + 4) 723 [.ref 1] μ1 = am_ret (some (.int (nI (ps_edition O.S).1))) μ2 ∧ ps_Ic bG (ps_edO O) μ2 ∧ ps_kC μ μ2 := by
  have g := ps_edL_sm O.S.n O.S 0 0 hO.1 (by omega) hed
  obtain ⟨μ1, a1, a2, a3⟩ := C_keep (d + 2) h hO
  obtain ⟨μ2, b1, b2, b3⟩ := c723 d (S := O.S) a2.1 hO.1 hed
  exact ⟨μ1, μ2, a1, b1, a2.dic (S := (ps_edition O.S).2) g.1 b2 b3, (ps_kC.off a3 rfl).tr (ps_kC.off b3 rfl)⟩
theorem c911_32 (d : Nat) (x : Nat) (hx : x ≤ 50) : ∀ k i (O : ps_O) (c : Nat) (μ : am_Mem), i + k = x → ps_Ic bG O μ → ps_Ow O → O.S.ed + k ≤ 9999 → ∃ μ', am_ev (am_call (d + 4)) 911 32 [.ref 0, .int (nI x), .int (nI c), .int (nI i)] [] μ = am_ret (some (.int (nI (ps_edN k O c).1))) μ' ∧ ps_Ic bG (ps_edN k O c).2 μ' ∧ ps_kC μ μ' := by
  intro k
  induction k with
  | zero =>
    intro i O c μ hi h hO hed
    rw [q911_32, if_pos (by rw [am_leN (by omega) (by omega)]; omega), q911_64]
    exact ⟨μ, rfl, h, ps_kC.rf⟩
  | succ k ih =>
    intro i O c μ hi h hO hed
    obtain ⟨μ1, μ2, a1, a2, a3, a4⟩ := C_edO d h hO (by omega)
    have w := W_edO hO (by omega)
    obtain ⟨μ', b1, b2, b3⟩ := ih (i + 1) (ps_edO O) (c + (ps_edition O.S).1) μ2 (by omega) a3 w.1 (by rw [w.2]; omega)
    rw [q911_32, if_neg (by rw [am_leN (by omega) (by omega)]; omega), a1, am_bV_ret, a2, am_bI_ret, nI_add, am_cN, nI_add]
    exact ⟨μ', b1, b2, a4.tr b3⟩
def ps_editions (O : ps_O) (x : Int32) : Int32 × ps_O := if (1 ≤ am_ix x ∧ am_ix x ≤ 50) ∧ O.S.ed + am_ix x ≤ 9999 then (nI (ps_edN (am_ix x) O 0).1, (ps_edN (am_ix x) O 0).2) else (am_c (-1), O)
theorem W_edN : ∀ k (O : ps_O) (c : Nat), ps_Ow O → O.S.ed + k ≤ 9999 → ps_Ow (ps_edN k O c).2
  | 0, _, _, hO, _ => hO
  | k + 1, O, c, hO, h => by
    have w := W_edO hO (by omega)
    exact W_edN k (ps_edO O) _ w.1 (by rw [w.2]; omega)
theorem W_editions (O : ps_O) (hO : ps_Ow O) (x : Int32) : ps_Ow (ps_editions O x).2 := by
  unfold ps_editions
  by_cases h : (1 ≤ am_ix x ∧ am_ix x ≤ 50) ∧ O.S.ed + am_ix x ≤ 9999
  · rw [if_pos h]; exact W_edN _ O 0 hO h.2
  · rw [if_neg h]; exact hO
theorem C_editions (d : Nat) (O : ps_O) (hO : ps_Ow O) (x : Int32) : ps_sC bG (d + 5) 911 [.ref 0, .int x] O (some (.int (ps_editions O x).1)) (ps_editions O x).2 := by
  intro μ h
  have e9 : O.S.ed ≤ 9999 := hO.1.2.2.2.2.2.1
  have r6 : μ 1 3 = nI O.S.ed := h.1.2.2.2.2.2.1
  have e := am_rngA x (a := 1) (b := 50) (by omega) (by omega) (am_ret (some (.int (am_c (-1)))) μ) (if nI O.S.ed + x ≤ nI 9999 then am_ev (am_call (d + 4)) 911 28 [.ref 0, .int x, .null, .null] [] μ else am_ret (some (.int (am_c (-1)))) μ)
  rw [e911, q911_0, q911_26, r6, show am_c 1 = nI 1 from rfl, show am_c 50 = nI 50 from rfl, show am_c 9999 = nI 9999 from rfl, e, ps_editions]
  by_cases hc : 1 ≤ am_ix x ∧ am_ix x ≤ 50
  · rw [if_pos hc]
    obtain ⟨a, ha, rfl⟩ : ∃ a, a ≤ 50 ∧ x = nI a := ⟨am_ix x, hc.2, (am_nIx x).symm⟩
    rw [am_ixN (by omega)] at hc ⊢
    by_cases h9 : O.S.ed + a ≤ 9999
    · rw [if_pos (by rw [nI_add, am_leN (by omega) (by omega)]; exact h9), if_pos ⟨hc, h9⟩, q911_28]
      exact c911_32 d a ha a 0 O 0 μ (by omega) h hO h9
    · rw [if_neg (by rw [nI_add, am_leN (by omega) (by omega)]; exact h9), if_neg (fun z => h9 z.2)]
      exact ⟨μ, rfl, h, ps_kC.rf⟩
  · rw [if_neg hc, if_neg (fun z => hc z.1)]
    exact ⟨μ, rfl, h, ps_kC.rf⟩
/-! undo -/
def ps_undoS (S : ps_S) (p : ps_P) : ps_S := (S.w, S.mk, S.kn, S.lim, S.chg, S.ed - 1, p.1, S.n, S.hd, S.ct, p.2.2, p.2.1, S.bk, S.law)
def ps_undo (O : ps_O) : Bool × ps_O := match O.past with
  | [] => (false, O)
  | p :: r => (true, (ps_undoS O.S p, O.tl, O.tp, O.fk, O.fp, r, O.img))
theorem W_undo (O : ps_O) (hO : ps_Ow O) : ps_Ow (ps_undo O).2 := by
  unfold ps_undo
  obtain ⟨S, tl, tp, fk, fp, past, img⟩ := O
  cases past with
  | nil => exact hO
  | cons p r =>
    obtain ⟨o1, o2, o3, o4, o5, o6, o7, o8⟩ := hO
    have p0 := o7 0 p rfl
    have l5 : (p :: r).length ≤ 6 := o5
    have l6 : (p :: r).length ≤ S.ed := o6
    rw [List.length_cons] at l5 l6
    obtain ⟨a1, a2, a3, a4, a5, a6, a7, a8, a9, a10⟩ := o1
    have hb : p.2.1 ≤ S.bn := p0.1
    have a9 : S.bn ≤ 80 := a9
    have a6 : S.ed ≤ 9999 := a6
    refine ⟨⟨a1, a2, a3, a4, a5, ?_, a7, fun e he => ?_, ?_, a10⟩, o2, o3, o4, ?_, ?_, fun j q hq => ?_, o8⟩
    · show S.ed - 1 ≤ 9999; omega
    · exact ⟨(a8 e he).1, (a8 e he).2.1, (a8 e he).2.2.1, (p0.2.1 e he).1, (p0.2.1 e he).2⟩
    · show p.2.1 ≤ 80; omega
    · show r.length ≤ 6; omega
    · show r.length ≤ S.ed - 1; omega
    · have hq : r[j]? = some q := hq
      have b := o7 (j + 1) q hq
      have mono : ∀ (i : Nat) (q : ps_P), r[i]? = some q → q.2.1 ≤ p.2.1 := by
        intro i
        induction i with
        | zero => intro q hq; exact p0.2.2 q hq
        | succ i ih =>
          intro q hq
          have hlt : i + 1 < r.length := by
            rcases Nat.lt_or_ge (i + 1) r.length with z | z
            · exact z
            · rw [List.getElem?_eq_none z] at hq
              exact absurd hq (by simp)
          have hi : r[i]? = some (r[i]'(by omega)) := List.getElem?_eq_getElem (by omega)
          exact Nat.le_trans ((o7 (i + 1) _ hi).2.2 q hq) (ih _ hi)
      exact ⟨mono j q hq, b.2.1, b.2.2⟩
theorem c403 (d : Nat) {μ : am_Mem} {nw L ed : Nat} (h3 : μ 37 3 = nI nw) (h4 : μ 37 4 = nI (L + 1)) (he : μ 1 3 = nI (ed + 1)) (hnw : nw < 6) : ∃ μ', am_call (d + 2) 403 [.ref 37, .ref 1] μ = am_ret none μ' ∧ μ' 37 3 = nI ((nw + 5) % 6) ∧ μ' 37 4 = nI L ∧ μ' 1 0 = μ 38 nw ∧ μ' 1 11 = μ 39 nw ∧ μ' 1 3 = nI ed ∧ (∀ j, j ≠ 0 → j ≠ 11 → j ≠ 3 → μ' 1 j = μ 1 j) ∧ (∀ j, j < 36 → μ' 5 j = μ 40 (nw * 36 + j)) ∧ ps_off [1, 5, 37] μ μ' := by
  have st : ∀ (s : Nat) (μ1 : am_Mem), s = (nw + 5) % 6 → μ1 37 4 = nI (L + 1) → am_ev (am_call (d + 1)) 403 81 [.ref 37, .ref 1] [.int (nI s), .ref 37] μ1 = am_ret none (am_up (am_up μ1 37 3 (nI ((nw + 5) % 6))) 37 4 (nI L)) := by
    intro s μ1 hs e4
    rw [q403_81, am_upI (by omega), e4, hs, am_cN, pk_sub (by omega), Nat.add_sub_cancel]
  rw [e403, q403_0]
  simp (disch := omega) only [am_upK, h3, am_ixN, am_gbI, am_cN, pk_mul, show (36 : Int32) = nI 36 from rfl]
  rw [show nI 0 = am_c 0 from rfl, show am_call (d + 1) 2004 [.ref 40, .int (nI (nw * 36)), .ref 5, .int (am_c 0), .int (nI 36)] (am_up (am_up μ 1 0 (μ 38 nw)) 1 11 (μ 39 nw)) = _ from c2004b d (by omega) _, am_bV_ret]
  have k1 : am_cp (am_up (am_up μ 1 0 (μ 38 nw)) 1 11 (μ 39 nw)) 40 5 (nw * 36) 0 36 1 3 - nI 1 = nI ed := by rw [am_cpK (by omega), am_upI (by omega), am_upI (by omega), he, pk_sub (by omega), Nat.add_sub_cancel]
  have k2 : am_cp (am_up (am_up μ 1 0 (μ 38 nw)) 1 11 (μ 39 nw)) 40 5 (nw * 36) 0 36 37 3 = nI nw := by rw [am_cpK (by omega), am_upK (by omega), am_upK (by omega), h3]
  simp only [k1, k2]
  have go : ∀ μ1 : am_Mem, μ1 = am_up (am_cp (am_up (am_up μ 1 0 (μ 38 nw)) 1 11 (μ 39 nw)) 40 5 (nw * 36) 0 36) 1 3 (nI ed) → μ1 37 4 = nI (L + 1) ∧ ∀ R : am_R, R = am_ret none (am_up (am_up μ1 37 3 (nI ((nw + 5) % 6))) 37 4 (nI L)) → ∃ μ', R = am_ret none μ' ∧ μ' 37 3 = nI ((nw + 5) % 6) ∧ μ' 37 4 = nI L ∧ μ' 1 0 = μ 38 nw ∧ μ' 1 11 = μ 39 nw ∧ μ' 1 3 = nI ed ∧ (∀ j, j ≠ 0 → j ≠ 11 → j ≠ 3 → μ' 1 j = μ 1 j) ∧ (∀ j, j < 36 → μ' 5 j = μ 40 (nw * 36 + j)) ∧ ps_off [1, 5, 37] μ μ' := by
    intro μ1 e1
    subst e1
    refine ⟨by rw [am_upK (by omega), am_cpK (by omega), am_upK (by omega), am_upK (by omega)]; exact h4, fun R hR => ⟨_, hR, ?_, ?_, ?_, ?_, ?_, fun j j0 j1 j2 => ?_, fun j hj => ?_, fun K hK => ?_⟩⟩
    · rw [am_upI (by omega), am_upS]
    · rw [am_upS]
    · rw [am_upK (by omega), am_upK (by omega), am_upI (by omega), am_cpK (by omega), am_upI (by omega), am_upS]
    · rw [am_upK (by omega), am_upK (by omega), am_upI (by omega), am_cpK (by omega), am_upS]
    · rw [am_upK (by omega), am_upK (by omega), am_upS]
    · rw [am_upK (by omega), am_upK (by omega), am_upI j2, am_cpK (by omega), am_upI j1, am_upI j0]
    · rw [am_upK (by omega), am_upK (by omega), am_upK (by omega), am_cpS, pk_cpy_in (by omega) (by omega), am_upK (by omega), am_upK (by omega), Nat.sub_zero]
    · have hK : K ≠ 1 ∧ K ≠ 5 ∧ K ≠ 37 := by simpa using hK
      rw [am_up_ne hK.2.2, am_up_ne hK.2.2, am_up_ne hK.1, am_cpK hK.2.1, am_up_ne hK.1, am_up_ne hK.1]
  generalize hμ1 : am_up (am_cp (am_up (am_up μ 1 0 (μ 38 nw)) 1 11 (μ 39 nw)) 40 5 (nw * 36) 0 36) 1 3 (nI ed) = μ1
  have g := go μ1 hμ1.symm
  refine g.2 _ ?_
  by_cases hc : nw = 0
  · rw [if_pos (by rw [hc]; decide), q403_80]
    exact st 5 μ1 (by rw [hc]) g.1
  · rw [if_neg (by rw [show (0 : Int32) = nI 0 from rfl, am_leN (by omega) (by omega)]; omega), pk_sub (by omega)]
    exact st (nw - 1) μ1 (by omega) g.1
theorem C_undo (d : Nat) (O : ps_O) (hO : ps_Ow O) : ps_sC bG (d + 3) 925 [.ref 0] O (some (.int (nI (ps_undo O).1.toNat))) (ps_undo O).2 := by
  intro μ h
  have hW := hO.1
  obtain ⟨S, tl, tp, fk, fp, past, img⟩ := O
  obtain ⟨i1, i2, i3, i4, ⟨i5, nw, i6, i7, i8⟩, i9, i10, i11⟩ := id h
  cases past with
  | nil =>
    have i5 : μ 37 4 = nI 0 := i5
    rw [e925, q925_0, i5, if_pos (by decide)]
    exact ⟨μ, rfl, h, ps_kC.rf⟩
  | cons p r =>
    have i5 : μ 37 4 = nI (r.length + 1) := i5
    have l5 : (p :: r).length ≤ 6 := hO.2.2.2.2.1
    have l6 : (p :: r).length ≤ S.ed := hO.2.2.2.2.2.1
    have hb : p.2.1 ≤ S.bn := (hO.2.2.2.2.2.2.1 0 p rfl).1
    rw [List.length_cons] at l5 l6
    have i1 : ps_Rc 1 S μ := i1
    have hW : ps_Wf S := hW
    have r6 : μ 1 3 = nI (S.ed - 1 + 1) := by rw [show S.ed - 1 + 1 = S.ed by omega]; exact i1.2.2.2.2.2.1
    obtain ⟨μ', g0, g1, g2, g3, g4, g5, g6, g7, g8⟩ := c403 d i7 i5 r6 i6
    have ee : ∀ K, K ≠ 1 → K ≠ 5 → K ≠ 37 → μ' K = μ K := fun K h1 h2 h3 => g8 K (by simp [h1, h2, h3])
    obtain ⟨b1, b2, b3⟩ := i8 0 p rfl
    have e0 : (nw + 6 - 0) % 6 = nw := by omega
    rw [e0] at b1 b2 b3
    rw [e925, q925_0, i5, if_neg (by rw [am_eq0 (by omega)]; omega), q925_12, g0, am_bV_ret]
    refine ⟨μ', rfl, ?_, ps_kC.off g8 rfl⟩
    obtain ⟨r1, r2, r3, r4, r5, r6, r7, r8, r9, r10, r11, r12, r13⟩ := i1
    have hct : ∀ e, e < S.n → S.ct e ≤ 3 ∧ e < 12 := fun e he => ⟨(hW.e he).2.2.2.2.2.1, (hW.e he).2.2.1⟩
    refine ⟨⟨?_, ?_, ?_, ?_, ?_, g5, ?_, ?_, ?_, ?_, ?_, ?_, ?_⟩, i2.off (ee _ (by omega) (by omega) (by omega)) (ee _ (by omega) (by omega) (by omega)) (ee _ (by omega) (by omega) (by omega)) (ee _ (by omega) (by omega) (by omega)), ?_, ?_, ⟨g2, (nw + 5) % 6, by omega, g1, fun j q hq => ?_⟩, fun hn => by rw [ee 0 (by omega) (by omega) (by omega)]; exact i9 hn, fun S' hS => ?_, ?_⟩
    · rw [g6 4 (by omega) (by omega) (by omega)]; exact r1
    · intro k hk; rw [ee (1 + 1) (by omega) (by omega) (by omega)]; exact r2 k hk
    · rw [g6 6 (by omega) (by omega) (by omega)]; exact r3
    · rw [g6 1 (by omega) (by omega) (by omega)]; exact r4
    · rw [g6 2 (by omega) (by omega) (by omega)]; exact r5
    · rw [g3]; exact b1
    · rw [g6 7 (by omega) (by omega) (by omega)]; exact r8
    · intro e he; rw [ee (1 + 2) (by omega) (by omega) (by omega)]; exact r9 e he
    · intro e he; rw [ee (1 + 3) (by omega) (by omega) (by omega)]; exact r10 e he
    · intro e i he hi
      have := hct e he
      have hi : i < S.ct e := hi
      show μ' 5 (e * 3 + i) = nI (p.2.2 e i)
      rw [g7 _ (by omega)]
      exact b3 e i he hi
    · rw [g4]; exact b2
    · intro l f hl hf
      have hl : l < p.2.1 := hl
      rw [ee (1 + 5) (by omega) (by omega) (by omega)]; exact r13 l f (by omega) hf
    · rw [ee 0 (by omega) (by omega) (by omega), ee 25 (by omega) (by omega) (by omega)]; exact i3
    · rw [ee 26 (by omega) (by omega) (by omega)]; exact i4
    · have hq : r[j]? = some q := hq
      have hlt : j < r.length := by
        rcases Nat.lt_or_ge j r.length with z | z
        · exact z
        · rw [List.getElem?_eq_none z] at hq
          exact absurd hq (by simp)
      obtain ⟨c1, c2, c3⟩ := i8 (j + 1) q hq
      rw [show ((nw + 5) % 6 + 6 - j) % 6 = (nw + 6 - (j + 1)) % 6 by omega, ee 38 (by omega) (by omega) (by omega), ee 39 (by omega) (by omega) (by omega), ee 40 (by omega) (by omega) (by omega)]
      exact ⟨c1, c2, c3⟩
    · obtain ⟨a1, a2, a3⟩ := i10 S' hS
      exact ⟨by rw [ee 0 (by omega) (by omega) (by omega)]; exact a1, a2.off (fun k hk => ee _ (by omega) (by omega) (by omega)), a3.off (ee _ (by omega) (by omega) (by omega)) (ee _ (by omega) (by omega) (by omega)) (ee _ (by omega) (by omega) (by omega)) (ee _ (by omega) (by omega) (by omega))⟩
    · rw [ee 48 (by omega) (by omega) (by omega), ee 55 (by omega) (by omega) (by omega)]; exact i11
