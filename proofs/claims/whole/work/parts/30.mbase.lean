/-! the model's small methods -/
theorem am_lt_ix {x : Int32} {a : Nat} (ha : a < 2147483648) : (x < nI a) = (am_ix x < a ∨ 2147483648 ≤ am_ix x) := by
  have e := am_toInt x
  have hx := am_ix_lt x
  rw [Int32.lt_iff_toInt_lt, nI_toInt ha]
  by_cases h : am_ix x < 2147483648
  · rw [if_pos h] at e
    rw [e]
    apply propext
    omega
  · rw [if_neg h] at e
    rw [e]
    apply propext
    omega
theorem am_gt_ix {x : Int32} {b : Nat} (hb : b < 2147483648) : (nI b < x) = (b < am_ix x ∧ am_ix x < 2147483648) := by
  have e := am_toInt x
  have hx := am_ix_lt x
  rw [Int32.lt_iff_toInt_lt, nI_toInt hb]
  by_cases h : am_ix x < 2147483648
  · rw [if_pos h] at e
    rw [e]
    apply propext
    omega
  · rw [if_neg h] at e
    rw [e]
    apply propext
    omega
theorem am_m1_lt {x : Int32} {n : Nat} (hn : n < 2147483648) : (nI n - nI 1 < x) = (n ≤ am_ix x ∧ am_ix x < 2147483648) := by
  cases n with
  | zero =>
    have e := am_toInt x
    have hx := am_ix_lt x
    have e0 : (nI 0 - nI 1).toInt = -1 := by decide
    rw [Int32.lt_iff_toInt_lt, e0]
    by_cases h : am_ix x < 2147483648
    · rw [if_pos h] at e
      rw [e]
      apply propext
      omega
    · rw [if_neg h] at e
      rw [e]
      apply propext
      omega
  | succ m =>
    rw [pk_sub (by omega), Nat.add_sub_cancel, am_gt_ix (by omega)]
    apply propext
    omega
theorem m1001 (d : Nat) (x lo hi : Int32) (μ : am_Mem) {P : Prop} (dP : Decidable P) (h : P ↔ ¬ x < lo ∧ ¬ hi < x) : am_call (d + 1) 1001 [.int x, .int lo, .int hi] μ = am_ret (some (.int (nI (decide P).toNat))) μ := by
  rw [e1001, q1001_0, q1001_14, q1001_15, q1001_15, am_gbt0, am_gbt1]
  by_cases h1 : x < lo
  · rw [if_pos h1, decide_eq_false (fun hP => (h.mp hP).1 h1)]; rfl
  · rw [if_neg h1]
    by_cases h2 : hi < x
    · rw [if_pos h2, decide_eq_false (fun hP => (h.mp hP).2 h2)]; rfl
    · rw [if_neg h2, decide_eq_true (h.mpr ⟨h1, h2⟩)]; rfl
theorem m1001c (d : Nat) (x : Int32) {a b : Nat} (ha : a < 2147483648) (hb : b < 2147483648) (μ : am_Mem) : am_call (d + 1) 1001 [.int x, .int (nI a), .int (nI b)] μ = am_ret (some (.int (nI (decide (a ≤ am_ix x ∧ am_ix x ≤ b)).toNat))) μ :=
  m1001 d x _ _ μ _ (by rw [am_lt_ix ha, am_gt_ix hb]; omega)
theorem m1001n (d : Nat) (x : Int32) {n : Nat} (hn : n < 2147483648) (μ : am_Mem) : am_call (d + 1) 1001 [.int x, .int (nI 0), .int (nI n - nI 1)] μ = am_ret (some (.int (nI (decide (am_ix x < n)).toNat))) μ :=
  m1001 d x _ _ μ _ (by rw [am_lt_ix (by omega), am_m1_lt hn]; omega)
theorem am_gbb (b : Bool) (R : am_R) : am_gb (Nat.blt (am_ix (nI b.toNat)) 2) R = R := by cases b <;> rfl
theorem m1002 (d : Nat) {μ : am_Mem} {w : Nat} (h : μ 57 0 = nI w) (hw : w ≤ 16) (x : Int32) : am_call (d + 2) 1002 [.ref 56, .int x] μ = am_ret (some (.int (nI (decide (am_ix x < w)).toNat))) μ := by
  rw [e1002, q1002_0, h, am_cN, am_cN, m1001n d x (by omega), am_bI_ret, am_gbb]
theorem m1003 (d : Nat) {μ : am_Mem} {w : Nat} (h : μ 57 1 = nI w) (hw : w ≤ 16) (x : Int32) : am_call (d + 2) 1003 [.ref 56, .int x] μ = am_ret (some (.int (nI (decide (am_ix x < w)).toNat))) μ := by
  rw [e1003, q1003_0, h, am_cN, am_cN, m1001n d x (by omega), am_bI_ret, am_gbb]
theorem m1004 (d : Nat) {μ : am_Mem} {w : Nat} (h : μ 57 0 = nI w) (hw : w ≤ 16) (x : Int32) : am_call (d + 2) 1004 [.ref 56, .int x] μ = am_ret (some (.int (nI (decide (am_ix x < 2 ^ w)).toNat))) μ := by
  have h2 : 2 ^ w ≤ 2 ^ 16 := Nat.pow_le_pow_right (by omega) hw
  rw [e1004, q1004_0, h, am_cN, am_cN, am_shl1 (by omega), m1001n d x (by omega), am_bI_ret, am_gbb]
theorem m1005 (d : Nat) {e f : Nat} (h : 45 + 5 * e + f < 1320) (μ : am_Mem) : am_call (d + 1) 1005 [.ref 56, .int (nI e), .int (nI f)] μ = am_ret (some (.int (μ 57 (45 + 5 * e + f)))) μ := by
  rw [e1005, q1005_0]
  simp (disch := omega) only [am_cN, pk_mul, nI_add, am_ixN, am_gbI]
theorem m1006 (d : Nat) {e f : Nat} (h : 45 + 5 * e + f < 1320) (x : Int32) (μ : am_Mem) : am_call (d + 1) 1006 [.ref 56, .int (nI e), .int (nI f), .int x] μ = am_ret none (am_up μ 57 (45 + 5 * e + f) x) := by
  rw [e1006, q1006_0]
  simp (disch := omega) only [am_cN, pk_mul, nI_add, am_ixN, am_gbI]
theorem m1007_4 (C : am_Ct) {a : Nat} (ha : a < 2147483648) (μ : am_Mem) : ∀ k i, i + k = 16 → am_ev C 1007 4 [.int (nI a), .int (nI (ps_cnt (fun k => a.testBit k) i)), .int (nI i)] [] μ = am_ret (some (.int (nI (ps_pc a)))) μ
  | 0, i, h => by
    have h : i = 16 := by omega
    subst h
    rw [q1007_4, if_pos (by decide), q1007_24]
    rfl
  | k + 1, i, h => by
    have ih := m1007_4 C ha μ k (i + 1) (by omega)
    rw [q1007_4, am_cN, am_cN, if_neg (by rw [am_leN (by omega) (by omega)]; omega), am_bit (by omega) ha, nI_add, nI_add]
    exact ih
theorem m1007 (d : Nat) {a : Nat} (ha : a < 2147483648) (μ : am_Mem) : am_call (d + 1) 1007 [.int (nI a)] μ = am_ret (some (.int (nI (ps_pc a)))) μ := by
  rw [e1007, q1007_0]
  exact m1007_4 _ ha μ 16 0 (by omega)
theorem m1042_4 (C : am_Ct) {μ : am_Mem} {w set : Nat} {mk : Nat → Nat} (hw : μ 57 0 = nI w) (hw16 : w ≤ 16) (hm : ∀ k, k < w → μ 57 (10 + k) = nI (mk k)) (hs : set < 2147483648) : ∀ k i, i + k = w → am_ev C 1042 4 [.ref 56, .int (nI set), .int (nI (ps_ors mk set i)), .int (nI i)] [] μ = am_ret (some (.int (nI (ps_ors mk set w)))) μ
  | 0, i, h => by
    have h : i = w := by omega
    subst h
    rw [q1042_4, hw, if_pos (by rw [am_leN (by omega) (by omega)]; exact Nat.le_refl _), q1042_45]
  | k + 1, i, h => by
    have ih := m1042_4 C hw hw16 hm hs k (i + 1) (by omega)
    rw [ps_ors] at ih
    rw [q1042_4, hw, if_neg (by rw [am_leN (by omega) (by omega)]; omega)]
    simp (disch := omega) only [am_cN, am_bit, nI_add, am_ixN, am_gbI, hm i (by omega), am_b1', q1042_36, q1042_37, am_or]
    cases hb : set.testBit i with
    | true =>
      rw [hb] at ih
      simpa using ih
    | false =>
      rw [hb] at ih
      simpa using ih
theorem m1042 (d : Nat) {μ : am_Mem} {w set : Nat} {mk : Nat → Nat} (hw : μ 57 0 = nI w) (hw16 : w ≤ 16) (hm : ∀ k, k < w → μ 57 (10 + k) = nI (mk k)) (hs : set < 2147483648) : am_call (d + 1) 1042 [.ref 56, .int (nI set)] μ = am_ret (some (.int (nI (ps_ors mk set w)))) μ := by
  rw [e1042, q1042_0]
  exact m1042_4 _ hw hw16 hm hs w 0 (by omega)
theorem m1044_4 (d : Nat) {μ : am_Mem} {e ct : Nat} {us : Nat → Nat} (he : e < 12) (hct : μ 57 (46 + 5 * e) = nI ct) (h3 : ct ≤ 3) (hus : ∀ i, i < ct → μ 57 (47 + 5 * e + i) = nI (us i)) (hu : ∀ i, i < ct → us i < 31) : ∀ k i, i + k = ct → am_ev (am_call (d + 1)) 1044 4 [.ref 56, .int (nI e), .int (nI (ps_mask us i)), .int (nI i)] [] μ = am_ret (some (.int (nI (ps_mask us ct)))) μ := by
  intro k
  have e1 : 45 + 5 * e + 1 = 46 + 5 * e := by omega
  induction k with
  | zero =>
    intro i h
    have h : i = ct := by omega
    subst h
    rw [q1044_4, am_cN, m1005 d (by omega), am_bI_ret, e1, hct, if_pos (by rw [am_leN (by omega) (by omega)]; exact Nat.le_refl _), q1044_33]
  | succ k ih =>
    intro i h
    have e2 : 45 + 5 * e + (2 + i) = 47 + 5 * e + i := by omega
    rw [q1044_4, am_cN, m1005 d (by omega), am_bI_ret, e1, hct, if_neg (by rw [am_leN (by omega) (by omega)]; omega), am_cN, nI_add, m1005 d (by omega), am_bI_ret, e2, hus i (by omega), am_shl1 (by have := hu i (by omega); omega), am_or, nI_add]
    exact ih (i + 1) (by omega)
theorem m1044 (d : Nat) {μ : am_Mem} {e ct : Nat} {us : Nat → Nat} (he : e < 12) (hct : μ 57 (46 + 5 * e) = nI ct) (h3 : ct ≤ 3) (hus : ∀ i, i < ct → μ 57 (47 + 5 * e + i) = nI (us i)) (hu : ∀ i, i < ct → us i < 31) : am_call (d + 2) 1044 [.ref 56, .int (nI e)] μ = am_ret (some (.int (nI (ps_mask us ct)))) μ := by
  rw [e1044, q1044_0]
  exact m1044_4 d he hct h3 hus hu ct 0 (by omega)
