/-! the dictionary as a value: words, marks, known, limit, change, edition, state, entries, heads, counts, used, book lines, book, law -/
abbrev ps_S : Type := Nat × (Nat → Nat) × Nat × Nat × Nat × Nat × Int32 × Nat × (Nat → Nat) × (Nat → Nat) × (Nat → Nat → Nat) × Nat × (Nat → Nat → Nat) × List (Bool × List (Nat × Nat))
abbrev ps_S.w (S : ps_S) : Nat := S.1
abbrev ps_S.mk (S : ps_S) : Nat → Nat := S.2.1
abbrev ps_S.kn (S : ps_S) : Nat := S.2.2.1
abbrev ps_S.lim (S : ps_S) : Nat := S.2.2.2.1
abbrev ps_S.chg (S : ps_S) : Nat := S.2.2.2.2.1
abbrev ps_S.ed (S : ps_S) : Nat := S.2.2.2.2.2.1
abbrev ps_S.sta (S : ps_S) : Int32 := S.2.2.2.2.2.2.1
abbrev ps_S.n (S : ps_S) : Nat := S.2.2.2.2.2.2.2.1
abbrev ps_S.hd (S : ps_S) : Nat → Nat := S.2.2.2.2.2.2.2.2.1
abbrev ps_S.ct (S : ps_S) : Nat → Nat := S.2.2.2.2.2.2.2.2.2.1
abbrev ps_S.us (S : ps_S) : Nat → Nat → Nat := S.2.2.2.2.2.2.2.2.2.2.1
abbrev ps_S.bn (S : ps_S) : Nat := S.2.2.2.2.2.2.2.2.2.2.2.1
abbrev ps_S.bk (S : ps_S) : Nat → Nat → Nat := S.2.2.2.2.2.2.2.2.2.2.2.2.1
abbrev ps_S.law (S : ps_S) : List (Bool × List (Nat × Nat)) := S.2.2.2.2.2.2.2.2.2.2.2.2.2
def ps_off (l : List Nat) (μ μ' : am_Mem) : Prop := ∀ K, K ∉ l → μ' K = μ K
theorem ps_off.rf {l : List Nat} {μ : am_Mem} : ps_off l μ μ := fun _ _ => rfl
theorem ps_off.tr {l : List Nat} {μ μ1 μ2 : am_Mem} (h : ps_off l μ μ1) (h' : ps_off l μ1 μ2) : ps_off l μ μ2 := fun K hK => (h' K hK).trans (h K hK)
theorem ps_off.up {l : List Nat} {μ μ1 : am_Mem} (h : ps_off l μ μ1) {K i : Nat} {x : Int32} (hK : K ∈ l) : ps_off l μ (am_up μ1 K i x) := fun K' hK' => by
  rw [am_up_ne (fun e => hK' (by rw [e]; exact hK))]
  exact h K' hK'
theorem ps_off.mono {l l' : List Nat} {μ μ' : am_Mem} (h : ps_off l μ μ') (hl : ∀ K, K ∈ l → K ∈ l') : ps_off l' μ μ' := fun K hK => h K (fun z => hK (hl K z))
/-- the component's dictionary at the cells from T on, but for the law -/
def ps_Rc (T : Nat) (S : ps_S) (μ : am_Mem) : Prop :=
  μ T 4 = nI S.w ∧ (∀ k, k < S.w → μ (T + 1) k = nI (S.mk k)) ∧ μ T 6 = nI S.kn ∧ μ T 1 = nI S.lim ∧ μ T 2 = nI S.chg ∧ μ T 3 = nI S.ed ∧ μ T 0 = S.sta ∧ μ T 7 = nI S.n ∧
  (∀ e, e < S.n → μ (T + 2) e = nI (S.hd e)) ∧ (∀ e, e < S.n → μ (T + 3) e = nI (S.ct e)) ∧ (∀ e i, e < S.n → i < S.ct e → μ (T + 4) (e * 3 + i) = nI (S.us e i)) ∧
  μ T 11 = nI S.bn ∧ ∀ i f, i < S.bn → f < 4 → μ (T + 5) (i * 4 + f) = nI (S.bk i f)
/-- the model's, in the row W -/
def ps_Rm (W : Nat) (S : ps_S) (μ : am_Mem) : Prop :=
  μ W 0 = nI S.w ∧ (∀ k, k < S.w → μ W (10 + k) = nI (S.mk k)) ∧ (∀ k, k < S.w → μ W (26 + k) = nI (S.kn.testBit k).toNat) ∧ μ W 2 = nI S.lim ∧ μ W 3 = nI S.chg ∧ μ W 4 = nI S.ed ∧ μ W 6 = S.sta ∧ μ W 1 = nI S.n ∧
  (∀ e, e < S.n → μ W (45 + 5 * e) = nI (S.hd e)) ∧ (∀ e, e < S.n → μ W (46 + 5 * e) = nI (S.ct e)) ∧ (∀ e i, e < S.n → i < S.ct e → μ W (47 + 5 * e + i) = nI (S.us e i)) ∧
  μ W 5 = nI S.bn ∧ ∀ i f, i < S.bn → f < 4 → μ W (110 + 4 * i + f) = nI (S.bk i f)
/-- its bounds -/
def ps_Wf (S : ps_S) : Prop :=
  S.w ≤ 16 ∧ (∀ k, k < S.w → 1 ≤ S.mk k ∧ S.mk k ≤ 1023) ∧ S.kn < 2 ^ S.w ∧ (1 ≤ S.lim ∧ S.lim ≤ 3) ∧ S.chg ≤ 1000 ∧ S.ed ≤ 9999 ∧ S.n ≤ 12 ∧
  (∀ e, e < S.n → S.hd e < S.w ∧ 1 ≤ S.ct e ∧ S.ct e ≤ 3 ∧ (∀ i, i < S.ct e → S.us e i < S.w ∧ S.us e i ≠ S.hd e) ∧ ∀ i j, i < S.ct e → j < S.ct e → S.us e i = S.us e j → i = j) ∧ S.bn ≤ 80 ∧ S.law.length ≤ 16
theorem am_rng {α : Type} (x : Int32) {n : Nat} (hn : n < 2147483648) (A B : α) : (if x < 0 then A else if nI n ≤ x then A else B) = if am_ix x < n then B else A := by
  rcases am_any x n (by omega) with ⟨a, h1, rfl⟩ | h
  · rw [am_ixN (by omega), if_pos h1, if_neg (nI_pos (by omega)), if_neg (by rw [am_leN (by omega) (by omega)]; omega)]
  · rw [show (if am_ix x < n then B else A) = A from if_neg (by omega)]
    rcases am_out h hn with h1 | h1
    · rw [if_pos h1]
    · rw [if_pos h1]
      split <;> rfl
theorem am_gbt1 (R : am_R) : am_gb (Nat.blt (am_ix (am_c 1)) 2) R = R := rfl
theorem am_gbt0 (R : am_R) : am_gb (Nat.blt (am_ix (am_c 0)) 2) R = R := rfl
theorem am_retb {b : Bool} {P : Prop} (dP : Decidable P) (h : b = decide P) (μ : am_Mem) : (if P then am_ret (some (.int (am_c 1))) μ else am_ret (some (.int (am_c 0))) μ) = am_ret (some (.int (nI b.toNat))) μ := by
  subst h
  by_cases hP : P
  · rw [if_pos hP, decide_eq_true hP]; rfl
  · rw [if_neg hP, decide_eq_false hP]; rfl
theorem c702 (d : Nat) {μ : am_Mem} {w : Nat} (h : μ 1 4 = nI w) (hw : w ≤ 16) (x : Int32) : am_call (d + 1) 702 [.ref 1, .int x] μ = am_ret (some (.int (nI (decide (am_ix x < w)).toNat))) μ := by
  rw [e702, q702_0, h, q702_16, q702_17, q702_17, am_gbt0, am_gbt1, am_rng x (by omega)]
  exact am_retb _ rfl μ
theorem c703 (d : Nat) {μ : am_Mem} {w : Nat} (h : μ 1 7 = nI w) (hw : w ≤ 16) (x : Int32) : am_call (d + 1) 703 [.ref 1, .int x] μ = am_ret (some (.int (nI (decide (am_ix x < w)).toNat))) μ := by
  rw [e703, q703_0, h, q703_16, q703_17, q703_17, am_gbt0, am_gbt1, am_rng x (by omega)]
  exact am_retb _ rfl μ
