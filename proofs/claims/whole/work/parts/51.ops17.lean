/-! editions and undo, the model -/
/-- the model's cells, with what is kept counted from another edition -/
def ps_Imx (ed1 : Nat) (O : ps_O) (μ : am_Mem) : Prop :=
  ps_Rm 57 O.S μ ∧ ps_Lm 57 O.S.law μ ∧ (μ 56 13 = nI O.tl ∧ ∀ i, i < O.tl → μ 63 i = nI (O.tp i)) ∧ (μ 56 20 = O.fk ∧ μ 56 22 = O.fp) ∧
  (μ 56 3 = nI O.past.length ∧ ∀ (j : Nat) (p : ps_P), O.past[j]? = some p → μ 59 (63 * (O.past.length - 1 - j)) = nI (ed1 - 1 - j) ∧ μ 59 (63 * (O.past.length - 1 - j) + 1) = nI p.2.1 ∧ μ 59 (63 * (O.past.length - 1 - j) + 2) = p.1 ∧
    ∀ e, e < O.S.n → μ 59 (63 * (O.past.length - 1 - j) + 3 + 5 * e) = nI (O.S.hd e) ∧ μ 59 (63 * (O.past.length - 1 - j) + 4 + 5 * e) = nI (O.S.ct e) ∧ ∀ i, i < O.S.ct e → μ 59 (63 * (O.past.length - 1 - j) + 5 + 5 * e + i) = nI (p.2.2 e i)) ∧
  (O.img = none → μ 56 4 = 0) ∧ ∀ S', O.img = some S' → μ 56 4 = 1 ∧ ps_Rm 58 S' μ ∧ ps_Lm 58 S'.law μ
theorem m1048_11 (d : Nat) (x2 : Value) {μ : am_Mem} : ∀ i k (μ1 : am_Mem), k + i = 315 → (∀ j, μ1 59 j = if j < k then μ 59 (j + 63) else μ 59 j) → (∀ K, K ≠ 59 → μ1 K = μ K) → ∃ μ', am_ev (am_call d) 1048 11 [.ref 56, .int (nI k), x2] [] μ1 = am_ev (am_call d) 1048 39 [.ref 56, .int (nI 315), x2] [] μ' ∧ (∀ j, μ' 59 j = if j < 315 then μ 59 (j + 63) else μ 59 j) ∧ ∀ K, K ≠ 59 → μ' K = μ K := by
  intro i
  induction i with
  | zero =>
    intro k μ1 hk h1 h2
    have hk : k = 315 := hk
    subst hk
    rw [q1048_11, if_pos (by decide)]
    exact ⟨μ1, rfl, h1, h2⟩
  | succ i ih =>
    intro k μ1 hk h1 h2
    rw [q1048_11, if_neg (by rw [am_cN, am_leN (by omega) (by omega)]; omega)]
    simp (disch := omega) only [am_cN, nI_add, am_ixN, am_gbI]
    refine ih (k + 1) _ (by omega) (fun j => ?_) (fun K hK => by rw [am_up_ne hK]; exact h2 K hK)
    by_cases hjk : j = k
    · subst hjk
      rw [am_upS, h1, if_neg (by omega), if_pos (by omega)]
    · rw [am_upI hjk, h1]
      by_cases hc : j < k
      · rw [if_pos hc, if_pos (by omega)]
      · rw [if_neg hc, if_neg (by omega)]
theorem m1048_100 (d : Nat) {μ : am_Mem} {c : Nat} (hc : c ≤ 5) : ∀ i k (μ1 : am_Mem), k + i = 60 → (∀ j, μ1 59 j = if 63 * c + 3 ≤ j ∧ j < 63 * c + 3 + k then μ 57 (45 + (j - (63 * c + 3))) else μ 59 j) → (∀ K, K ≠ 59 → μ1 K = μ K) → ∃ μ', am_ev (am_call d) 1048 100 [.ref 56, .int (nI (63 * c)), .int (nI k)] [] μ1 = am_ev (am_call d) 1048 131 [.ref 56, .int (nI (63 * c)), .int (nI 60)] [] μ' ∧ (∀ j, μ' 59 j = if 63 * c + 3 ≤ j ∧ j < 63 * c + 63 then μ 57 (45 + (j - (63 * c + 3))) else μ 59 j) ∧ ∀ K, K ≠ 59 → μ' K = μ K := by
  intro i
  induction i with
  | zero =>
    intro k μ1 hk h1 h2
    have hk : k = 60 := hk
    subst hk
    rw [q1048_100, if_pos (by decide)]
    exact ⟨μ1, rfl, h1, h2⟩
  | succ i ih =>
    intro k μ1 hk h1 h2
    rw [q1048_100, if_neg (by rw [am_cN, am_leN (by omega) (by omega)]; omega)]
    simp (disch := omega) only [am_cN, nI_add, am_ixN, am_gbI]
    refine ih (k + 1) _ (by omega) (fun j => ?_) (fun K hK => by rw [am_up_ne hK]; exact h2 K hK)
    by_cases hjk : j = 63 * c + 3 + k
    · subst hjk
      rw [am_upS, if_pos (by omega), h2 57 (by omega), Nat.add_sub_cancel_left]
    · rw [am_upI hjk, h1]
      by_cases hc : 63 * c + 3 ≤ j ∧ j < 63 * c + 3 + k
      · rw [if_pos hc, if_pos (by omega)]
      · rw [if_neg hc, if_neg (by omega)]
theorem m1048_49 (d : Nat) (x1 x2 : Value) {μ : am_Mem} {c : Nat} (hc : c ≤ 5) (h3 : μ 56 3 = nI c) : ∃ μ', am_ev (am_call d) 1048 49 [.ref 56, x1, x2] [] μ = am_ret none μ' ∧ μ' 56 3 = nI (c + 1) ∧ (∀ i, i ≠ 3 → μ' 56 i = μ 56 i) ∧ (∀ K, K ≠ 56 → K ≠ 59 → μ' K = μ K) ∧ μ' 59 (63 * c) = μ 57 4 ∧ μ' 59 (63 * c + 1) = μ 57 5 ∧ μ' 59 (63 * c + 2) = μ 57 6 ∧ (∀ i, i < 60 → μ' 59 (63 * c + 3 + i) = μ 57 (45 + i)) ∧ ∀ i, i < 63 * c → μ' 59 i = μ 59 i := by
  rw [q1048_49]
  simp (disch := omega) only [am_upK, h3, am_cN, pk_mul, nI_add, am_ixN, am_gbI]
  generalize hμ1 : am_up (am_up (am_up μ 59 (63 * c) (μ 57 4)) 59 (63 * c + 1) (μ 57 5)) 59 (63 * c + 2) (μ 57 6) = μ1
  have aK : ∀ K, K ≠ 59 → μ1 K = μ K := fun K hK => by rw [← hμ1, am_up_ne hK, am_up_ne hK, am_up_ne hK]
  obtain ⟨μ2, g1, g2, g3⟩ := m1048_100 d (μ := μ1) hc 60 0 μ1 (by omega) (fun j => by rw [if_neg (by omega)]) (fun _ _ => rfl)
  have e3 : μ2 56 3 = nI c := by rw [g3 56 (by omega), aK 56 (by omega)]; exact h3
  rw [g1, q1048_131, e3, am_cN, nI_add]
  refine ⟨_, rfl, by rw [am_upS], fun i hi => by rw [am_upI hi, g3 56 (by omega), aK 56 (by omega)], fun K h1 h2 => by rw [am_up_ne h1, g3 K h2, aK K h2], ?_, ?_, ?_, fun i hi => ?_, fun i hi => ?_⟩
  · rw [am_upK (by omega), g2, if_neg (by omega), ← hμ1, am_upI (by omega), am_upI (by omega), am_upS]
  · rw [am_upK (by omega), g2, if_neg (by omega), ← hμ1, am_upI (by omega), am_upS]
  · rw [am_upK (by omega), g2, if_neg (by omega), ← hμ1, am_upS]
  · rw [am_upK (by omega), g2, if_pos (by omega), aK 57 (by omega), Nat.add_sub_cancel_left]
  · rw [am_upK (by omega), g2, if_neg (by omega), ← hμ1, am_upI (by omega), am_upI (by omega), am_upI (by omega)]
theorem m1048 (d : Nat) {μ : am_Mem} {L c sh : Nat} (hL : L ≤ 6) (h3 : μ 56 3 = nI L) (hc : c = if L = 6 then 5 else L) (hsh : sh = if L = 6 then 63 else 0) : ∃ μ', am_call (d + 1) 1048 [.ref 56] μ = am_ret none μ' ∧ μ' 56 3 = nI (c + 1) ∧ (∀ i, i ≠ 3 → μ' 56 i = μ 56 i) ∧ (∀ K, K ≠ 56 → K ≠ 59 → μ' K = μ K) ∧ μ' 59 (63 * c) = μ 57 4 ∧ μ' 59 (63 * c + 1) = μ 57 5 ∧ μ' 59 (63 * c + 2) = μ 57 6 ∧ (∀ i, i < 60 → μ' 59 (63 * c + 3 + i) = μ 57 (45 + i)) ∧ ∀ i, i < 63 * c → μ' 59 i = μ 59 (i + sh) := by
  rw [e1048, q1048_0, h3]
  by_cases h6 : L = 6
  · subst h6
    rw [if_pos rfl] at hc hsh
    subst hc hsh
    obtain ⟨μ1, g1, g2, g3⟩ := m1048_11 d .null (μ := μ) 315 0 μ (by omega) (fun j => by rw [if_neg (by omega)]) (fun _ _ => rfl)
    rw [if_pos (by decide), show am_c 0 = nI 0 from rfl, g1, q1048_39]
    have e3 : μ1 56 3 = nI 6 := by rw [g3 56 (by omega)]; exact h3
    rw [e3, show nI 6 - am_c 1 = nI 5 by decide]
    obtain ⟨μ', k0, k1, k2, k3, k4, k5, k6, k7, k8⟩ := m1048_49 d (.int (nI 315)) .null (μ := am_up μ1 56 3 (nI 5)) (c := 5) (by omega) (by rw [am_upS])
    refine ⟨μ', k0, k1, fun i hi => by rw [k2 i hi, am_upI hi, g3 56 (by omega)], fun K h1 h2 => by rw [k3 K h1 h2, am_up_ne h1, g3 K h2], ?_, ?_, ?_, fun i hi => ?_, fun i hi => ?_⟩
    · rw [k4, am_upK (by omega), g3 57 (by omega)]
    · rw [k5, am_upK (by omega), g3 57 (by omega)]
    · rw [k6, am_upK (by omega), g3 57 (by omega)]
    · rw [k7 i hi, am_upK (by omega), g3 57 (by omega)]
    · rw [k8 i hi, am_upK (by omega), g2, if_pos (by omega)]
  · rw [if_neg h6] at hc hsh
    subst hc hsh
    rw [if_neg (by rw [am_cN, am_eqN (by omega) (by omega)]; omega)]
    exact m1048_49 d .null .null (by omega) h3
theorem ps_Imx.Rk {ed1 : Nat} {O : ps_O} {μ μ' : am_Mem} (h : ps_Imx ed1 O μ) (e56 : ∀ i, i ≠ 3 → μ' 56 i = μ 56 i) (eK : ∀ K, K ≠ 56 → K ≠ 59 → μ' K = μ K) : ps_Rm 57 O.S μ' ∧ ps_Lm 57 O.S.law μ' ∧ (μ' 56 13 = nI O.tl ∧ ∀ i, i < O.tl → μ' 63 i = nI (O.tp i)) ∧ (μ' 56 20 = O.fk ∧ μ' 56 22 = O.fp) ∧ (O.img = none → μ' 56 4 = 0) ∧ ∀ S', O.img = some S' → μ' 56 4 = 1 ∧ ps_Rm 58 S' μ' ∧ ps_Lm 58 S'.law μ' := by
  obtain ⟨i1, i2, i3, i4, i5, i6, i7⟩ := h
  refine ⟨i1.off (eK 57 (by omega) (by omega)), i2.off (eK 57 (by omega) (by omega)), ?_, ?_, fun hn => by rw [e56 4 (by omega)]; exact i6 hn, fun S' hS => ?_⟩
  · rw [e56 13 (by omega), eK 63 (by omega) (by omega)]; exact i3
  · rw [e56 20 (by omega), e56 22 (by omega)]; exact i4
  · obtain ⟨a1, a2, a3⟩ := i7 S' hS
    exact ⟨by rw [e56 4 (by omega)]; exact a1, a2.off (eK 58 (by omega) (by omega)), a3.off (eK 58 (by omega) (by omega))⟩
theorem M_keep (d : Nat) {O : ps_O} {μ : am_Mem} (h : ps_Im O μ) (hO : ps_Ow O) : ∃ μ', am_call (d + 1) 1048 [.ref 56] μ = am_ret none μ' ∧ ps_Imx (O.S.ed + 1) O.keep μ' ∧ ps_kM μ μ' := by
  have h : ps_Imx O.S.ed O μ := h
  have l6 : O.past.length ≤ 6 := hO.2.2.2.2.1
  obtain ⟨i1, i2, i3, i4, ⟨i5, i5'⟩, i6, i7⟩ := id h
  obtain ⟨c, hc⟩ : ∃ c, c = if O.past.length = 6 then 5 else O.past.length := ⟨_, rfl⟩
  obtain ⟨sh, hsh⟩ : ∃ sh, sh = if O.past.length = 6 then 63 else 0 := ⟨_, rfl⟩
  obtain ⟨μ', g0, g1, g2, g3, g4, g5, g6, g7, g8⟩ := m1048 d l6 i5 hc hsh
  obtain ⟨k1, k2, k3, k4, k5, k6⟩ := h.Rk g2 g3
  have w7 : O.S.n ≤ 12 := hO.1.2.2.2.2.2.2.1
  have hct : ∀ e, e < O.S.n → O.S.ct e ≤ 3 ∧ e < 12 := fun e he => ⟨(hO.1.e he).2.2.2.2.2.1, (hO.1.e he).2.2.1⟩
  have hlen : O.keep.past.length = c + 1 := by
    show (((O.S.sta, O.S.bn, O.S.us) :: O.past).take 6).length = c + 1
    rw [List.length_take, List.length_cons, hc]
    split <;> omega
  refine ⟨μ', g0, ⟨k1, k2, k3, k4, ⟨by rw [hlen]; exact g1, fun j p hp => ?_⟩, k5, k6⟩, fun K hK => g3 K (by omega) (by omega)⟩
  rw [hlen, Nat.add_sub_cancel]
  rcases ps_tk hp with ⟨rfl, rfl⟩ | ⟨i, rfl, hi, hp'⟩
  · rw [Nat.sub_zero, Nat.sub_zero]
    refine ⟨by rw [g4]; exact i1.2.2.2.2.2.1, by rw [g5]; exact i1.2.2.2.2.2.2.2.2.2.2.2.1, by rw [g6]; exact i1.2.2.2.2.2.2.1, fun e he => ?_⟩
    have he : e < O.S.n := he
    have := hct e he
    refine ⟨?_, ?_, fun i hi => ?_⟩
    · rw [g7 (5 * e) (by omega)]; exact i1.2.2.2.2.2.2.2.2.1 e he
    · rw [show 63 * c + 4 + 5 * e = 63 * c + 3 + (1 + 5 * e) by omega, g7 (1 + 5 * e) (by omega), show 45 + (1 + 5 * e) = 46 + 5 * e by omega]; exact i1.2.2.2.2.2.2.2.2.2.1 e he
    · have hi : i < O.S.ct e := hi
      rw [show 63 * c + 5 + 5 * e + i = 63 * c + 3 + (2 + 5 * e + i) by omega, g7 (2 + 5 * e + i) (by omega), show 45 + (2 + 5 * e + i) = 47 + 5 * e + i by omega]; exact i1.2.2.2.2.2.2.2.2.2.2.1 e i he hi
  · have hlt : i < O.past.length := by
      rcases Nat.lt_or_ge i O.past.length with z | z
      · exact z
      · rw [List.getElem?_eq_none z] at hp'
        exact absurd hp' (by simp)
    obtain ⟨a1, a2, a3, a4⟩ := i5' i p hp'
    have ei : 63 * (c - (i + 1)) + sh = 63 * (O.past.length - 1 - i) := by rw [hc, hsh]; split <;> omega
    have cl : i + 1 ≤ c := by rw [hc]; split <;> omega
    have rd : ∀ k, k < 63 → μ' 59 (63 * (c - (i + 1)) + k) = μ 59 (63 * (O.past.length - 1 - i) + k) := fun k hk => by
      rw [g8 _ (by omega), ← ei]
      congr 1
      omega
    refine ⟨?_, ?_, ?_, fun e he => ?_⟩
    · have := rd 0 (by omega)
      simp only [Nat.add_zero] at this
      rw [this, a1]
      congr 1
      omega
    · rw [rd 1 (by omega)]; exact a2
    · rw [rd 2 (by omega)]; exact a3
    · have he : e < O.S.n := he
      have := hct e he
      obtain ⟨b1, b2, b3⟩ := a4 e he
      refine ⟨?_, ?_, fun i' hi' => ?_⟩
      · rw [Nat.add_assoc, rd (3 + 5 * e) (by omega), ← Nat.add_assoc]; exact b1
      · rw [Nat.add_assoc, rd (4 + 5 * e) (by omega), ← Nat.add_assoc]; exact b2
      · have hi' : i' < O.S.ct e := hi'
        rw [Nat.add_assoc, Nat.add_assoc, rd (5 + (5 * e + i')) (by omega), ← Nat.add_assoc, ← Nat.add_assoc]; exact b3 i' hi'
theorem ps_Imx.dic {O : ps_O} {μ μ' : am_Mem} {ed1 : Nat} (h : ps_Imx ed1 O μ) {S : ps_S} (hs : ps_sm O.S S) (hR : ps_Rm 57 S μ') (ho : ps_om μ μ') (hed : ed1 = S.ed) : ps_Im (O.dic S) μ' := by
  subst hed
  obtain ⟨i1, i2, i3, i4, ⟨i5, i5'⟩, i6, i7⟩ := h
  have ee : ∀ K, K ≠ 57 → μ' K = μ K := ho.1
  refine ⟨hR, ?_, ?_, ?_, ⟨?_, fun j p hp => ?_⟩, fun hn => by rw [ee 56 (by omega)]; exact i6 hn, fun S' hS => ?_⟩
  · show ps_Lm 57 S.law μ'
    rw [hs.2.2.2.2.1]
    refine ⟨by rw [ho.2 435 (by omega)]; exact i2.1, fun l q hq => ?_⟩
    obtain ⟨a1, a2, a3, a4⟩ := i2.2 l q hq
    exact ⟨by rw [ho.2 _ (by omega)]; exact a1, by rw [ho.2 _ (by omega)]; exact a2, by rw [ho.2 _ (by omega)]; exact a3, fun j q' hj => by rw [ho.2 _ (by omega), ho.2 _ (by omega)]; exact a4 j q' hj⟩
  · rw [ee 56 (by omega), ee 63 (by omega)]; exact i3
  · rw [ee 56 (by omega)]; exact i4
  · rw [ee 56 (by omega)]; exact i5
  · obtain ⟨a1, a2, a3, a4⟩ := i5' j p hp
    rw [ee 59 (by omega)]
    refine ⟨a1, a2, a3, fun e he => ?_⟩
    have he : e < S.n := he
    rw [hs.2.1] at he
    obtain ⟨b1, b2, b3⟩ := a4 e he
    show _ = nI (S.hd e) ∧ _ = nI (S.ct e) ∧ ∀ i, i < S.ct e → _
    rw [hs.2.2.1, hs.2.2.2.1]
    exact ⟨b1, b2, b3⟩
  · obtain ⟨a1, a2, a3⟩ := i7 S' hS
    exact ⟨by rw [ee 56 (by omega)]; exact a1, a2.off (ee 58 (by omega)), a3.off (ee 58 (by omega))⟩
theorem M_edO (d : Nat) {O : ps_O} {μ : am_Mem} (h : ps_Im O μ) (hO : ps_Ow O) (hed : O.S.ed + 1 ≤ 9999) : ∃ μ1 μ2, am_call (d + 3) 1048 [.ref 56] μ = am_ret none μ1 ∧ am_call (d + 3) 1051 [.ref 56] μ1 = am_ret (some (.int (nI (ps_edition O.S).1))) μ2 ∧ ps_Im (ps_edO O) μ2 ∧ ps_kM μ μ2 := by
  have g := ps_edL_sm O.S.n O.S 0 0 hO.1 (by omega) hed
  obtain ⟨μ1, a1, a2, a3⟩ := M_keep (d + 2) h hO
  obtain ⟨μ2, b1, b2, b3⟩ := m1051 d (S := O.S) a2.1 hO.1 hed
  exact ⟨μ1, μ2, a1, b1, a2.dic (S := (ps_edition O.S).2) g.1 b2 b3 g.2.2.1.symm, a3.tr (fun K hK => b3.1 K (by omega))⟩
theorem m1052_30 (d : Nat) (x : Nat) (hx : x ≤ 50) : ∀ k i (O : ps_O) (c : Nat) (μ : am_Mem), i + k = x → ps_Im O μ → ps_Ow O → O.S.ed + k ≤ 9999 → ∃ μ', am_ev (am_call (d + 3)) 1052 30 [.ref 56, .int (nI x), .int (nI c), .int (nI i)] [] μ = am_ret (some (.int (nI (ps_edN k O c).1))) μ' ∧ ps_Im (ps_edN k O c).2 μ' ∧ ps_kM μ μ' := by
  intro k
  induction k with
  | zero =>
    intro i O c μ hi h hO hed
    rw [q1052_30, if_pos (by rw [am_leN (by omega) (by omega)]; omega), q1052_52]
    exact ⟨μ, rfl, h, ps_kM.rf⟩
  | succ k ih =>
    intro i O c μ hi h hO hed
    obtain ⟨μ1, μ2, a1, a2, a3, a4⟩ := M_edO d h hO (by omega)
    have w := W_edO hO (by omega)
    obtain ⟨μ', b1, b2, b3⟩ := ih (i + 1) (ps_edO O) (c + (ps_edition O.S).1) μ2 (by omega) a3 w.1 (by rw [w.2]; omega)
    rw [q1052_30, if_neg (by rw [am_leN (by omega) (by omega)]; omega), a1, am_bV_ret, a2, am_bI_ret, nI_add, am_cN, nI_add]
    exact ⟨μ', b1, b2, a4.tr b3⟩
theorem M_editions (d : Nat) (O : ps_O) (hO : ps_Ow O) (x : Int32) : ps_sM (d + 4) 1052 [.ref 56, .int x] O (some (.int (ps_editions O x).1)) (ps_editions O x).2 := by
  intro μ h
  have e9 : O.S.ed ≤ 9999 := hO.1.2.2.2.2.2.1
  have r6 : μ 57 4 = nI O.S.ed := h.1.2.2.2.2.2.1
  rw [e1052, q1052_0, show am_c 1 = nI 1 from rfl, show am_c 50 = nI 50 from rfl, show am_c 9999 = nI 9999 from rfl, m1001c (d + 2) x (by omega) (by omega), am_bI_ret, q1052_24, r6, ps_editions]
  by_cases hc : 1 ≤ am_ix x ∧ am_ix x ≤ 50
  · rw [decide_eq_true hc, if_neg (by decide)]
    obtain ⟨a, ha, rfl⟩ : ∃ a, a ≤ 50 ∧ x = nI a := ⟨am_ix x, hc.2, (am_nIx x).symm⟩
    rw [am_ixN (by omega)] at hc ⊢
    by_cases h9 : O.S.ed + a ≤ 9999
    · rw [if_pos (by rw [nI_add, am_leN (by omega) (by omega)]; exact h9), if_pos ⟨hc, h9⟩, q1052_26]
      exact m1052_30 d a ha a 0 O 0 μ (by omega) h hO h9
    · rw [if_neg (by rw [nI_add, am_leN (by omega) (by omega)]; exact h9), if_neg (fun z => h9 z.2)]
      exact ⟨μ, rfl, h, ps_kM.rf⟩
  · rw [decide_eq_false hc, if_pos (by decide), if_neg (fun z => hc z.1)]
    exact ⟨μ, rfl, h, ps_kM.rf⟩
theorem m1049_70 (d : Nat) {μ : am_Mem} {c : Nat} (hc : c ≤ 5) : ∀ i k (μ1 : am_Mem), k + i = 60 → (∀ j, μ1 57 j = if 45 ≤ j ∧ j < 45 + k then μ 59 (63 * c + 3 + (j - 45)) else μ 57 j) → (∀ K, K ≠ 57 → μ1 K = μ K) → ∃ μ', am_ev (am_call d) 1049 70 [.ref 56, .int (nI (63 * c)), .int (nI k)] [] μ1 = am_ret (some (.int (nI 1))) μ' ∧ (∀ j, μ' 57 j = if 45 ≤ j ∧ j < 105 then μ 59 (63 * c + 3 + (j - 45)) else μ 57 j) ∧ ∀ K, K ≠ 57 → μ' K = μ K := by
  intro i
  induction i with
  | zero =>
    intro k μ1 hk h1 h2
    have hk : k = 60 := hk
    subst hk
    rw [q1049_70, if_pos (by decide), q1049_101]
    exact ⟨μ1, rfl, h1, h2⟩
  | succ i ih =>
    intro k μ1 hk h1 h2
    rw [q1049_70, if_neg (by rw [am_cN, am_leN (by omega) (by omega)]; omega)]
    simp (disch := omega) only [am_cN, nI_add, am_ixN, am_gbI]
    refine ih (k + 1) _ (by omega) (fun j => ?_) (fun K hK => by rw [am_up_ne hK]; exact h2 K hK)
    by_cases hjk : j = 45 + k
    · subst hjk
      rw [am_upS, if_pos (by omega), h2 59 (by omega), Nat.add_sub_cancel_left]
    · rw [am_upI hjk, h1]
      by_cases hc : 45 ≤ j ∧ j < 45 + k
      · rw [if_pos hc, if_pos (by omega)]
      · rw [if_neg hc, if_neg (by omega)]
theorem M_undo (d : Nat) (O : ps_O) (hO : ps_Ow O) : ps_sM (d + 1) 1049 [.ref 56] O (some (.int (nI (ps_undo O).1.toNat))) (ps_undo O).2 := by
  intro μ h
  have hW := hO.1
  obtain ⟨S, tl, tp, fk, fp, past, img⟩ := O
  obtain ⟨i1, i2, i3, i4, ⟨i5, i5'⟩, i6, i7⟩ := id h
  cases past with
  | nil =>
    have i5 : μ 56 3 = nI 0 := i5
    rw [e1049, q1049_0, i5, if_pos (by decide)]
    exact ⟨μ, rfl, h, ps_kM.rf⟩
  | cons p r =>
    have i5 : μ 56 3 = nI (r.length + 1) := i5
    have l5 : (p :: r).length ≤ 6 := hO.2.2.2.2.1
    have hb : p.2.1 ≤ S.bn := (hO.2.2.2.2.2.2.1 0 p rfl).1
    rw [List.length_cons] at l5
    have i1 : ps_Rm 57 S μ := i1
    have hW : ps_Wf S := hW
    have w1 : S.w ≤ 16 := hW.1
    have w7 : S.n ≤ 12 := hW.2.2.2.2.2.2.1
    have hct : ∀ e, e < S.n → S.ct e ≤ 3 ∧ e < 12 := fun e he => ⟨(hW.e he).2.2.2.2.2.1, (hW.e he).2.2.1⟩
    obtain ⟨c1, c2, c3, c4⟩ := i5' 0 p rfl
    rw [show (p :: r).length - 1 - 0 = r.length by rw [List.length_cons]; omega] at c1 c2 c3 c4
    rw [e1049, q1049_0, i5, if_neg (by rw [am_eq0 (by omega)]; omega), q1049_9]
    simp (disch := omega) only [am_upK, am_upS, i5, am_cN, pk_sub, Nat.add_sub_cancel, pk_mul, nI_add, am_ixN, am_gbI, c1, c2, c3]
    generalize hμ1 : am_up (am_up (am_up (am_up μ 56 3 (nI r.length)) 57 4 (nI (S.ed - 1 - 0))) 57 5 (nI p.2.1)) 57 6 p.1 = μ1
    obtain ⟨μ', g0, g1, g2⟩ := m1049_70 d (μ := μ1) (c := r.length) (by omega) 60 0 μ1 (by omega) (fun j => by rw [if_neg (by omega)]) (fun _ _ => rfl)
    rw [g0]
    have k59 : μ1 59 = μ 59 := by rw [← hμ1, am_up_ne (by omega), am_up_ne (by omega), am_up_ne (by omega), am_up_ne (by omega)]
    have eK : ∀ K, K ≠ 57 → K ≠ 56 → μ' K = μ K := fun K h1 h2 => by rw [g2 K h1, ← hμ1, am_up_ne h1, am_up_ne h1, am_up_ne h1, am_up_ne h2]
    have e56 : ∀ i, i ≠ 3 → μ' 56 i = μ 56 i := fun i hi => by rw [g2 56 (by omega), ← hμ1, am_upK (by omega), am_upK (by omega), am_upK (by omega), am_upI hi]
    have e563 : μ' 56 3 = nI r.length := by rw [g2 56 (by omega), ← hμ1, am_upK (by omega), am_upK (by omega), am_upK (by omega), am_upS]
    have e57 : ∀ j, j < 45 ∨ 105 ≤ j → j ≠ 4 → j ≠ 5 → j ≠ 6 → μ' 57 j = μ 57 j := fun j hj h4 h5 h6 => by rw [g1, if_neg (by omega), ← hμ1, am_upI h6, am_upI h5, am_upI h4, am_upK (by omega)]
    have er : ∀ i, i < 60 → μ' 57 (45 + i) = μ 59 (63 * r.length + 3 + i) := fun i hi => by rw [g1, if_pos (by omega), k59, Nat.add_sub_cancel_left]
    obtain ⟨r1, r2, r3, r4, r5, r6, r7, r8, r9, r10, r11, r12, r13⟩ := i1
    refine ⟨μ', rfl, ⟨⟨?_, ?_, ?_, ?_, ?_, ?_, ?_, ?_, ?_, ?_, ?_, ?_, ?_⟩, ?_, ?_, ?_, ⟨e563, fun j q hq => ?_⟩, fun hn => by rw [e56 4 (by omega)]; exact i6 hn, fun S' hS => ?_⟩, fun K hK => eK K (by omega) (by omega)⟩
    · rw [e57 0 (by omega) (by omega) (by omega) (by omega)]; exact r1
    · intro k hk
      have hk : k < S.w := hk
      rw [e57 _ (by omega) (by omega) (by omega) (by omega)]; exact r2 k hk
    · intro k hk
      have hk : k < S.w := hk
      rw [e57 _ (by omega) (by omega) (by omega) (by omega)]; exact r3 k hk
    · rw [e57 2 (by omega) (by omega) (by omega) (by omega)]; exact r4
    · rw [e57 3 (by omega) (by omega) (by omega) (by omega)]; exact r5
    · rw [g1, if_neg (by omega), ← hμ1, am_upI (by omega), am_upI (by omega), am_upS]; rfl
    · rw [g1, if_neg (by omega), ← hμ1, am_upS]; rfl
    · rw [e57 1 (by omega) (by omega) (by omega) (by omega)]; exact r8
    · intro e he
      have he : e < S.n := he
      have := hct e he
      rw [er (5 * e) (by omega)]; exact (c4 e he).1
    · intro e he
      have he : e < S.n := he
      have := hct e he
      rw [show 46 + 5 * e = 45 + (1 + 5 * e) by omega, er (1 + 5 * e) (by omega), show 63 * r.length + 3 + (1 + 5 * e) = 63 * r.length + 4 + 5 * e by omega]; exact (c4 e he).2.1
    · intro e i he hi
      have he : e < S.n := he
      have := hct e he
      have hi : i < S.ct e := hi
      rw [show 47 + 5 * e + i = 45 + (2 + 5 * e + i) by omega, er (2 + 5 * e + i) (by omega), show 63 * r.length + 3 + (2 + 5 * e + i) = 63 * r.length + 5 + 5 * e + i by omega]; exact (c4 e he).2.2 i hi
    · rw [g1, if_neg (by omega), ← hμ1, am_upI (by omega), am_upS]; rfl
    · intro l f hl hf
      have hl : l < p.2.1 := hl
      rw [e57 _ (by omega) (by omega) (by omega) (by omega)]; exact r13 l f (by omega) hf
    · refine ⟨by rw [e57 435 (by omega) (by omega) (by omega) (by omega)]; exact i2.1, fun l q hq => ?_⟩
      obtain ⟨a1, a2, a3, a4⟩ := i2.2 l q hq
      exact ⟨by rw [e57 _ (by omega) (by omega) (by omega) (by omega)]; exact a1, by rw [e57 _ (by omega) (by omega) (by omega) (by omega)]; exact a2, by rw [e57 _ (by omega) (by omega) (by omega) (by omega)]; exact a3, fun j q' hj => by rw [e57 _ (by omega) (by omega) (by omega) (by omega), e57 _ (by omega) (by omega) (by omega) (by omega)]; exact a4 j q' hj⟩
    · rw [e56 13 (by omega), eK 63 (by omega) (by omega)]; exact i3
    · rw [e56 20 (by omega), e56 22 (by omega)]; exact i4
    · have hq : r[j]? = some q := hq
      have hlt : j < r.length := by
        rcases Nat.lt_or_ge j r.length with z | z
        · exact z
        · rw [List.getElem?_eq_none z] at hq
          exact absurd hq (by simp)
      obtain ⟨a1, a2, a3, a4⟩ := i5' (j + 1) q hq
      rw [show (p :: r).length - 1 - (j + 1) = r.length - 1 - j by rw [List.length_cons]; omega] at a1 a2 a3 a4
      rw [eK 59 (by omega) (by omega)]
      refine ⟨?_, a2, a3, a4⟩
      show μ 59 (63 * (r.length - 1 - j)) = nI (S.ed - 1 - 1 - j)
      rw [a1]
      show nI (S.ed - 1 - (j + 1)) = _
      congr 1
      omega
    · obtain ⟨a1, a2, a3⟩ := i7 S' hS
      exact ⟨by rw [e56 4 (by omega)]; exact a1, a2.off (eK 58 (by omega) (by omega)), a3.off (eK 58 (by omega) (by omega))⟩
