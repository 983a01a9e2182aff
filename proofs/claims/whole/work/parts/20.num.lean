/-! numbers -/
theorem am_cN (n : Nat) : am_c (no_index (@OfNat.ofNat Int n _)) = nI (@OfNat.ofNat Nat n (instOfNatNat n)) := rfl
theorem am_cm1 : am_c (-1) = -1 := rfl
theorem am_cm2 : am_c (-2) = -2 := rfl
theorem am_0 : (0 : Int32) = nI 0 := rfl
theorem am_ixN {a : Nat} (h : a < 4294967296) : am_ix (nI a) = a := by
  show (UInt32.ofNat a).toNat = a
  rw [UInt32.toNat_ofNat']
  exact Nat.mod_eq_of_lt h
theorem am_nIx (x : Int32) : nI (am_ix x) = x := by
  obtain ⟨⟨b⟩⟩ := x
  have h0 : BitVec.ofNat 32 b.toNat = b := by simp
  show (⟨⟨BitVec.ofNat 32 b.toNat⟩⟩ : Int32) = ⟨⟨b⟩⟩
  rw [h0]
theorem am_ix_lt (x : Int32) : am_ix x < 4294967296 := x.toUInt32.toBitVec.isLt
theorem am_gbI {a b : Nat} (h : a < b) (R : am_R) : am_gb (Nat.blt a b) R = R := by
  have : Nat.blt a b = true := Nat.ble_eq_true_of_le h
  rw [this]
  rfl
theorem am_gbT (R : am_R) : am_gb true R = R := rfl
theorem am_gb0 {a : Nat} (h : 0 < a) (R : am_R) : am_gb (!(Nat.beq a 0)) R = R := by
  cases a with
  | zero => omega
  | succ n => rfl
theorem am_bI_ret (x : Int32) (μ : am_Mem) (k : Int32 → am_Mem → am_R) : am_bI (am_ret (some (.int x)) μ) k = k x μ := by
  funext μ' r
  apply propext
  constructor
  · rintro ⟨x', μ1, ⟨h1, h2⟩, h3⟩
    cases h1
    cases h2
    exact h3
  · intro h
    exact ⟨x, μ, ⟨rfl, rfl⟩, h⟩
theorem am_bV_ret (μ : am_Mem) (k : am_Mem → am_R) : am_bV (am_ret none μ) k = k μ := by
  funext μ' r
  apply propext
  constructor
  · rintro ⟨μ1, ⟨h1, h2⟩, h3⟩
    cases h2
    exact h3
  · intro h
    exact ⟨μ, ⟨rfl, rfl⟩, h⟩
theorem am_bS_ret (i : Nat) (μ : am_Mem) (k : Nat → am_Mem → am_R) : am_bS (am_ret (some (.retAddr i)) μ) k = k i μ := by
  funext μ' r
  apply propext
  constructor
  · rintro ⟨x', μ1, ⟨h1, h2⟩, h3⟩
    cases h1
    cases h2
    exact h3
  · intro h
    exact ⟨i, μ, ⟨rfl, rfl⟩, h⟩
theorem am_upS (μ : am_Mem) (K i : Nat) (x : Int32) : am_up μ K i x K i = x := by simp [am_up]
theorem am_upK {μ : am_Mem} {K K' i j : Nat} {x : Int32} (h : K' ≠ K) : am_up μ K i x K' j = μ K' j := by simp [am_up, h]
theorem am_upI {μ : am_Mem} {K i j : Nat} {x : Int32} (h : j ≠ i) : am_up μ K i x K j = μ K j := by simp [am_up, h]
theorem am_and (a b : Nat) : nI a &&& nI b = nI (a &&& b) := by
  apply Int32.toBitVec_inj.1
  show BitVec.ofNat 32 a &&& BitVec.ofNat 32 b = BitVec.ofNat 32 (a &&& b)
  rw [BitVec.ofNat_and]
theorem am_or (a b : Nat) : nI a ||| nI b = nI (a ||| b) := by
  apply Int32.toBitVec_inj.1
  show BitVec.ofNat 32 a ||| BitVec.ofNat 32 b = BitVec.ofNat 32 (a ||| b)
  rw [BitVec.ofNat_or]
theorem am_xor (a b : Nat) : nI a ^^^ nI b = nI (a ^^^ b) := by
  apply Int32.toBitVec_inj.1
  show BitVec.ofNat 32 a ^^^ BitVec.ofNat 32 b = BitVec.ofNat 32 (a ^^^ b)
  rw [BitVec.ofNat_xor]
theorem am_sl : ∀ n, n < 32 → ((nI n &&& 31).toBitVec.smod 32).toNat = n := by decide +kernel
theorem am_shl {a k : Nat} (hk : k < 32) (h : a * 2 ^ k < 4294967296) : nI a <<< (nI k &&& 31) = nI (a * 2 ^ k) := pk_shlN _ k (am_sl k hk) h
theorem am_shl1 {k : Nat} (hk : k < 32) : nI 1 <<< (nI k &&& 31) = nI (2 ^ k) := by
  have h : (2 : Nat) ^ k ≤ 2 ^ 31 := Nat.pow_le_pow_right (by omega) (by omega)
  rw [am_shl hk (by omega), Nat.one_mul]
theorem am_shr {a k : Nat} (hk : k < 32) (h : a < 2147483648) : nI a >>> (nI k &&& 31) = nI (a / 2 ^ k) := pk_shrN h _ k (am_sl k hk)
theorem am_bitN (a k : Nat) : a / 2 ^ k % 2 = (a.testBit k).toNat := by
  rw [Nat.testBit_eq_decide_div_mod_eq]
  rcases (show a / 2 ^ k % 2 = 0 ∨ a / 2 ^ k % 2 = 1 by omega) with h | h <;> simp [h]
theorem am_bit {a k : Nat} (hk : k < 32) (h : a < 2147483648) : (nI a >>> (nI k &&& 31)) &&& nI 1 = nI (a.testBit k).toNat := by
  rw [am_shr hk h, am_and, Nat.and_one_is_mod, am_bitN]
theorem am_b0 (b : Bool) : (nI b.toNat = 0) = (b = false) := by cases b <;> decide
theorem am_b0' (b : Bool) : (nI b.toNat = nI 0) = (b = false) := by cases b <;> decide
theorem am_b1' (b : Bool) : (nI b.toNat = nI 1) = (b = true) := by cases b <;> decide
theorem am_eqN {a b : Nat} (ha : a < 2147483648) (hb : b < 2147483648) : (nI a = nI b) = (a = b) := propext (nI_eq ha hb)
theorem am_eq0 {a : Nat} (ha : a < 2147483648) : (nI a = 0) = (a = 0) := propext (nI_eq ha (b := 0) (by omega))
theorem am_leN {a b : Nat} (ha : a < 2147483648) (hb : b < 2147483648) : (nI a ≤ nI b) = (a ≤ b) := propext (nI_leI ha hb)
theorem am_ltN {a b : Nat} (ha : a < 2147483648) (hb : b < 2147483648) : (nI a < nI b) = (a < b) := propext (nI_ltI ha hb)
theorem am_le0 {b : Nat} (hb : b < 2147483648) : ((0 : Int32) ≤ nI b) = True := eq_true (nI_pos' hb)
theorem am_lt0 {b : Nat} (hb : b < 2147483648) : (nI b < (0 : Int32)) = False := eq_false (nI_pos hb)
/-- any int is a small number, or is outside -/
theorem am_any (x : Int32) (n : Nat) (hn : n ≤ 2147483648) : (∃ a, a < n ∧ x = nI a) ∨ (n ≤ am_ix x) := by
  rcases Nat.lt_or_ge (am_ix x) n with h | h
  · exact Or.inl ⟨am_ix x, h, (am_nIx x).symm⟩
  · exact Or.inr h
theorem am_toInt (x : Int32) : x.toInt = if am_ix x < 2147483648 then (am_ix x : Int) else (am_ix x : Int) - 4294967296 := by
  show x.toBitVec.toInt = _
  have e2 : am_ix x = x.toBitVec.toNat := rfl
  rw [e2, BitVec.toInt_eq_toNat_cond]
  by_cases h : 2 * x.toBitVec.toNat < 2 ^ 32
  · rw [if_pos h, if_pos (by omega)]
  · rw [if_neg h, if_neg (by omega)]
    rfl
/-- outside, below 0 or above -/
theorem am_out {x : Int32} {n : Nat} (h : n ≤ am_ix x) (hn : n < 2147483648) : x < 0 ∨ nI n ≤ x := by
  have e := am_toInt x
  by_cases hx : am_ix x < 2147483648
  · right
    rw [if_pos hx] at e
    rw [Int32.le_iff_toInt_le, nI_toInt hn, e]
    omega
  · left
    rw [if_neg hx] at e
    have := am_ix_lt x
    rw [Int32.lt_iff_toInt_lt, e, Int32.toInt_zero]
    omega
