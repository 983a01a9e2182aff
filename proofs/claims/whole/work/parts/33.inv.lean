/-! the whole object as a value: dictionary, tape's length, tape, fault, its place, what can be undone (latest first: state, book lines, used), image -/
abbrev ps_P : Type := Int32 × Nat × (Nat → Nat → Nat)
abbrev ps_O : Type := ps_S × Nat × (Nat → Nat) × Int32 × Int32 × List ps_P × Option ps_S
abbrev ps_O.S (O : ps_O) : ps_S := O.1
abbrev ps_O.tl (O : ps_O) : Nat := O.2.1
abbrev ps_O.tp (O : ps_O) : Nat → Nat := O.2.2.1
abbrev ps_O.fk (O : ps_O) : Int32 := O.2.2.2.1
abbrev ps_O.fp (O : ps_O) : Int32 := O.2.2.2.2.1
abbrev ps_O.past (O : ps_O) : List ps_P := O.2.2.2.2.2.1
abbrev ps_O.img (O : ps_O) : Option ps_S := O.2.2.2.2.2.2
/-- used words that fit the entries of S -/
def ps_Uw (S : ps_S) (us : Nat → Nat → Nat) : Prop := ∀ e, e < S.n → (∀ i, i < S.ct e → us e i < S.w ∧ us e i ≠ S.hd e) ∧ ∀ i j, i < S.ct e → j < S.ct e → us e i = us e j → i = j
def ps_Ow (O : ps_O) : Prop := ps_Wf O.S ∧ ps_Lw O.S.law ∧ O.tl ≤ 400 ∧ (∀ i, i < O.tl → O.tp i < 256) ∧ O.past.length ≤ 6 ∧ O.past.length ≤ O.S.ed ∧ (∀ (j : Nat) (p : ps_P), O.past[j]? = some p → p.2.1 ≤ O.S.bn ∧ ps_Uw O.S p.2.2 ∧ ∀ q, O.past[j + 1]? = some q → q.2.1 ≤ p.2.1) ∧ ∀ S', O.img = some S' → ps_Wf S' ∧ ps_Lw S'.law
def ps_by (n : Nat) : Int32 := (nI n).toInt8.toInt32
/-- the component's cells -/
def ps_Ic (bG : Nat) (O : ps_O) (μ : am_Mem) : Prop :=
  ps_Rc 1 O.S μ ∧ ps_Lc 7 O.S.law μ ∧ (μ 0 4 = nI O.tl ∧ ∀ i, i < O.tl → μ 25 i = ps_by (O.tp i)) ∧ (μ 26 5 = O.fk ∧ μ 26 6 = O.fp) ∧
  (μ 37 4 = nI O.past.length ∧ ∃ nw, nw < 6 ∧ μ 37 3 = nI nw ∧ ∀ (j : Nat) (p : ps_P), O.past[j]? = some p → μ 38 ((nw + 6 - j) % 6) = p.1 ∧ μ 39 ((nw + 6 - j) % 6) = nI p.2.1 ∧ ∀ e i, e < O.S.n → i < O.S.ct e → μ 40 ((nw + 6 - j) % 6 * 36 + (e * 3 + i)) = nI (p.2.2 e i)) ∧
  (O.img = none → μ 0 2 = 0) ∧ (∀ S', O.img = some S' → μ 0 2 = 1 ∧ ps_Rc 13 S' μ ∧ ps_Lc 19 S'.law μ) ∧
  ∃ sp, sp ≤ bG ∧ μ 48 9 = nI sp ∧ ∀ i, i < 4096 → am_ix (μ 55 i) / 1048576 ≤ sp
/-- the model's cells -/
def ps_Im (O : ps_O) (μ : am_Mem) : Prop :=
  ps_Rm 57 O.S μ ∧ ps_Lm 57 O.S.law μ ∧ (μ 56 13 = nI O.tl ∧ ∀ i, i < O.tl → μ 63 i = nI (O.tp i)) ∧ (μ 56 20 = O.fk ∧ μ 56 22 = O.fp) ∧
  (μ 56 3 = nI O.past.length ∧ ∀ (j : Nat) (p : ps_P), O.past[j]? = some p → μ 59 (63 * (O.past.length - 1 - j)) = nI (O.S.ed - 1 - j) ∧ μ 59 (63 * (O.past.length - 1 - j) + 1) = nI p.2.1 ∧ μ 59 (63 * (O.past.length - 1 - j) + 2) = p.1 ∧
    ∀ e, e < O.S.n → μ 59 (63 * (O.past.length - 1 - j) + 3 + 5 * e) = nI (O.S.hd e) ∧ μ 59 (63 * (O.past.length - 1 - j) + 4 + 5 * e) = nI (O.S.ct e) ∧ ∀ i, i < O.S.ct e → μ 59 (63 * (O.past.length - 1 - j) + 5 + 5 * e + i) = nI (p.2.2 e i)) ∧
  (O.img = none → μ 56 4 = 0) ∧ ∀ S', O.img = some S' → μ 56 4 = 1 ∧ ps_Rm 58 S' μ ∧ ps_Lm 58 S'.law μ
/-- the invariants look at their own cells alone -/
theorem ps_Rc.off {T : Nat} {S : ps_S} {μ μ' : am_Mem} (h : ps_Rc T S μ) (e : ∀ k, k ≤ 5 → μ' (T + k) = μ (T + k)) : ps_Rc T S μ' := by
  have e0 : μ' T = μ T := e 0 (by omega)
  obtain ⟨h1, h2, h3, h4, h5, h6, h7, h8, h9, h10, h11, h12, h13⟩ := h
  exact ⟨by rw [e0]; exact h1, fun k hk => by rw [e 1 (by omega)]; exact h2 k hk, by rw [e0]; exact h3, by rw [e0]; exact h4, by rw [e0]; exact h5, by rw [e0]; exact h6, by rw [e0]; exact h7, by rw [e0]; exact h8, fun k hk => by rw [e 2 (by omega)]; exact h9 k hk, fun k hk => by rw [e 3 (by omega)]; exact h10 k hk, fun k i hk hi => by rw [e 4 (by omega)]; exact h11 k i hk hi, by rw [e0]; exact h12, fun i f hi hf => by rw [e 5 (by omega)]; exact h13 i f hi hf⟩
theorem ps_Rm.off {W : Nat} {S : ps_S} {μ μ' : am_Mem} (h : ps_Rm W S μ) (e : μ' W = μ W) : ps_Rm W S μ' := by
  unfold ps_Rm at h ⊢
  rw [e]
  exact h
/-- cells that the invariant of the component reads -/
def ps_cC : List Nat := [0, 1, 2, 3, 4, 5, 6, 7, 8, 9, 10, 13, 14, 15, 16, 17, 18, 19, 20, 21, 22, 25, 26, 37, 38, 39, 40, 48, 55]
theorem ps_Ic.off {bG : Nat} {O : ps_O} {μ μ' : am_Mem} (h : ps_Ic bG O μ) (e : ∀ K, K ∈ ps_cC → μ' K = μ K) : ps_Ic bG O μ' := by
  have ee : ∀ K, ps_cC.contains K = true → μ' K = μ K := fun K hK => e K (List.contains_iff_mem.mp hK)
  obtain ⟨h1, h2, ⟨h3, h3'⟩, ⟨h4, h4'⟩, ⟨h5, nw, h6, h7, h8⟩, h9, h10, sp, h11, h12, h13⟩ := h
  refine ⟨h1.off (fun k hk => ?_), h2.off (ee 7 rfl) (ee 8 rfl) (ee 9 rfl) (ee 10 rfl), ⟨by rw [ee 0 rfl]; exact h3, fun i hi => by rw [ee 25 rfl]; exact h3' i hi⟩, ⟨by rw [ee 26 rfl]; exact h4, by rw [ee 26 rfl]; exact h4'⟩, ⟨by rw [ee 37 rfl]; exact h5, nw, h6, by rw [ee 37 rfl]; exact h7, fun j p hp => ?_⟩, fun hn => by rw [ee 0 rfl]; exact h9 hn, fun S' hS => ?_, sp, h11, by rw [ee 48 rfl]; exact h12, fun i hi => by rw [ee 55 rfl]; exact h13 i hi⟩
  · rcases (show k = 0 ∨ k = 1 ∨ k = 2 ∨ k = 3 ∨ k = 4 ∨ k = 5 by omega) with rfl | rfl | rfl | rfl | rfl | rfl <;> exact ee _ rfl
  · obtain ⟨a1, a2, a3⟩ := h8 j p hp
    exact ⟨by rw [ee 38 rfl]; exact a1, by rw [ee 39 rfl]; exact a2, fun e i he hi => by rw [ee 40 rfl]; exact a3 e i he hi⟩
  · obtain ⟨a1, a2, a3⟩ := h10 S' hS
    refine ⟨by rw [ee 0 rfl]; exact a1, a2.off (fun k hk => ?_), a3.off (ee 19 rfl) (ee 20 rfl) (ee 21 rfl) (ee 22 rfl)⟩
    rcases (show k = 0 ∨ k = 1 ∨ k = 2 ∨ k = 3 ∨ k = 4 ∨ k = 5 by omega) with rfl | rfl | rfl | rfl | rfl | rfl <;> exact ee _ rfl
theorem ps_Im.off {O : ps_O} {μ μ' : am_Mem} (h : ps_Im O μ) (e : ∀ K, K = 56 ∨ K = 57 ∨ K = 58 ∨ K = 59 ∨ K = 63 → μ' K = μ K) : ps_Im O μ' := by
  unfold ps_Im at h ⊢
  obtain ⟨h1, h2, h3, h4, h5, h6, h7⟩ := h
  rw [e 56 (by omega), e 59 (by omega), e 63 (by omega)]
  exact ⟨h1.off (e 57 (by omega)), h2.off (e 57 (by omega)), h3, h4, h5, h6, fun S' hS => ⟨(h7 S' hS).1, (h7 S' hS).2.1.off (e 58 (by omega)), (h7 S' hS).2.2.off (e 58 (by omega))⟩⟩
