/-! pure words: sets as masks, counts -/
def ps_mask (f : Nat → Nat) : Nat → Nat
  | 0 => 0
  | n + 1 => ps_mask f n ||| 2 ^ f n
def ps_cnt (p : Nat → Bool) : Nat → Nat
  | 0 => 0
  | n + 1 => ps_cnt p n + (p n).toNat
theorem ps_mask_lt {f : Nat → Nat} {b : Nat} : ∀ {n : Nat}, (∀ i, i < n → f i < b) → ps_mask f n < 2 ^ b
  | 0, _ => Nat.two_pow_pos b
  | n + 1, h => Nat.or_lt_two_pow (ps_mask_lt (fun i hi => h i (by omega))) (Nat.pow_lt_pow_right (by omega) (h n (by omega)))
theorem ps_mask_bit {f : Nat → Nat} {k : Nat} : ∀ {n : Nat}, (ps_mask f n).testBit k = true ↔ ∃ i, i < n ∧ f i = k
  | 0 => by simp [ps_mask]
  | n + 1 => by
    rw [ps_mask, Nat.testBit_or, Bool.or_eq_true, ps_mask_bit (n := n), Nat.testBit_two_pow]
    constructor
    · rintro (⟨i, h1, h2⟩ | h)
      · exact ⟨i, by omega, h2⟩
      · exact ⟨n, by omega, of_decide_eq_true h⟩
    · rintro ⟨i, h1, h2⟩
      by_cases hi : i = n
      · subst hi
        exact Or.inr (decide_eq_true h2)
      · exact Or.inl ⟨i, by omega, h2⟩
theorem ps_cnt_le (p : Nat → Bool) : ∀ n, ps_cnt p n ≤ n
  | 0 => Nat.le_refl 0
  | n + 1 => by
    have := ps_cnt_le p n
    have h : (p n).toNat ≤ 1 := by cases p n <;> decide
    rw [ps_cnt]
    omega
theorem c711_4 (C : am_Ct) {μ : am_Mem} {e ct : Nat} {us : Nat → Nat} (he : e < 12) (hct : μ 4 e = nI ct) (h3 : ct ≤ 3) (hus : ∀ i, i < ct → μ 5 (e * 3 + i) = nI (us i)) (hu : ∀ i, i < ct → us i < 31) : ∀ k i, i + k = ct → am_ev C 711 4 [.ref 1, .int (nI e), .int (nI (ps_mask us i)), .int (nI i)] [] μ = am_ret (some (.int (nI (ps_mask us ct)))) μ
  | 0, i, h => by
    have h : i = ct := by omega
    subst h
    rw [q711_4]
    simp (disch := omega) only [am_ixN, am_gbI, hct, am_leN, Nat.le_refl, if_true]
    rw [q711_35]
  | k + 1, i, h => by
    rw [q711_4]
    simp (disch := omega) only [am_ixN, am_gbI, hct, am_leN, am_cN, nI_add, pk_mul]
    rw [if_neg (by omega), hus i (by omega), am_shl1 (by have := hu i (by omega); omega), am_or]
    exact c711_4 C he hct h3 hus hu k (i + 1) (by omega)
theorem c711 (d : Nat) {μ : am_Mem} {e ct : Nat} {us : Nat → Nat} (he : e < 12) (hct : μ 4 e = nI ct) (h3 : ct ≤ 3) (hus : ∀ i, i < ct → μ 5 (e * 3 + i) = nI (us i)) (hu : ∀ i, i < ct → us i < 31) : am_call (d + 1) 711 [.ref 1, .int (nI e)] μ = am_ret (some (.int (nI (ps_mask us ct)))) μ := by
  rw [e711, q711_0]
  exact c711_4 _ he hct h3 hus hu ct 0 (by omega)
theorem c712 (d : Nat) {μ : am_Mem} {e ct w : Nat} {us : Nat → Nat} (he : e < 12) (hct : μ 4 e = nI ct) (h3 : ct ≤ 3) (hus : ∀ i, i < ct → μ 5 (e * 3 + i) = nI (us i)) (hu : ∀ i, i < ct → us i < 16) (hw : w < 32) : am_call (d + 2) 712 [.ref 1, .int (nI e), .int (nI w)] μ = am_ret (some (.int (nI ((ps_mask us ct).testBit w).toNat))) μ := by
  have hb : ps_mask us ct < 2 ^ 16 := ps_mask_lt hu
  rw [e712, q712_0, c711 d he hct h3 hus (fun i hi => by have := hu i hi; omega), am_bI_ret]
  simp (disch := omega) only [am_cN, am_bit, am_b0]
  cases hc : (ps_mask us ct).testBit w with
  | true =>
    rw [if_neg (by simp), q712_17]
    rfl
  | false =>
    rw [if_pos rfl, q712_16, q712_17]
    rfl
