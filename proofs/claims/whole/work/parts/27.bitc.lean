/-! Integer.bitCount, and the model's count -/
def am_us (x : Int32) (k : Int32) : Int32 := ((Int32.toUInt32 x) >>> ((Int32.toUInt32 k) &&& Int32.toUInt32 31)).toInt32
def am_f1 (x : Int32) : Int32 := x - (am_us x (am_c 1) &&& 1431655765)
def am_f2 (x : Int32) : Int32 := (x &&& 858993459) + (am_us x (am_c 2) &&& 858993459)
def am_f3 (x : Int32) : Int32 := (x + am_us x (am_c 4)) &&& 252645135
def am_f4 (x : Int32) : Int32 := x + am_us x (am_c 8)
def am_f5 (x : Int32) : Int32 := x + am_us x (am_c 16)
theorem am_usN {n k : Nat} (hn : n < 4294967296) (hk : k < 32) : am_us (nI n) (nI k) = nI (n / 2 ^ k) := by
  have hs : ∀ k : Fin 32, (((nI k.val).toUInt32 &&& Int32.toUInt32 31).toBitVec % 32).toNat = k.val := by decide +kernel
  exact pk_ushrN hn _ k (hs ⟨k, hk⟩)
def am_n1 (x : Nat) : Nat := x - (x / 2 &&& 1431655765)
def am_n2 (x : Nat) : Nat := (x &&& 858993459) + (x / 4 &&& 858993459)
def am_n3 (x : Nat) : Nat := (x + x / 16) &&& 252645135
def am_n4 (x : Nat) : Nat := x + x / 256
def am_n5 (x : Nat) : Nat := x + x / 65536
theorem am_f1N {x : Nat} (h : x < 4294967296) : am_f1 (nI x) = nI (am_n1 x) := by
  have e : (1431655765 : Int32) = nI 1431655765 := rfl
  have hle : (x / 2 ^ 1 &&& 1431655765) ≤ x := Nat.le_trans Nat.and_le_left (Nat.div_le_self _ _)
  rw [am_f1, e, am_cN, am_usN h (by omega), am_and, pk_sub hle]
  rfl
theorem am_f2N {x : Nat} (h : x < 4294967296) : am_f2 (nI x) = nI (am_n2 x) := by
  have e : (858993459 : Int32) = nI 858993459 := rfl
  rw [am_f2, e, am_cN, am_usN h (by omega), am_and, am_and, nI_add]
  rfl
theorem am_f3N {x : Nat} (h : x < 4294967296) : am_f3 (nI x) = nI (am_n3 x) := by
  have e : (252645135 : Int32) = nI 252645135 := rfl
  rw [am_f3, e, am_cN, am_usN h (by omega), nI_add, am_and]
  rfl
theorem am_f4N {x : Nat} (h : x < 4294967296) : am_f4 (nI x) = nI (am_n4 x) := by
  rw [am_f4, am_cN, am_usN h (by omega), nI_add]
  rfl
theorem am_f5N {x : Nat} (h : x < 4294967296) : am_f5 (nI x) = nI (am_n5 x) := by
  rw [am_f5, am_cN, am_usN h (by omega), nI_add]
  rfl
def ps_pc (a : Nat) : Nat := ps_cnt (fun k => a.testBit k) 16
theorem am_split {h l c d : Nat} (hl : l < 256) (hd : d < 256) : (256 * h + l) &&& (256 * c + d) = 256 * (h &&& c) + (l &&& d) := by
  have hb : (l &&& d) < 2 ^ 8 := Nat.lt_of_le_of_lt Nat.and_le_left hl
  apply Nat.eq_of_testBit_eq
  intro j
  rw [Nat.testBit_and, show (256 : Nat) = 2 ^ 8 from rfl, Nat.testBit_two_pow_mul_add h hl, Nat.testBit_two_pow_mul_add c hd, Nat.testBit_two_pow_mul_add (h &&& c) hb]
  by_cases hj : j < 8
  · simp only [if_pos hj, Nat.testBit_and]
  · simp only [if_neg hj, Nat.testBit_and]
def am_F (x : Nat) : Nat := am_n3 (am_n2 (am_n1 x))
theorem am_byte : ∀ l : Fin 256, (l.val / 2 &&& 1431655765) = (l.val / 2 &&& 85) ∧ (l.val / 2 &&& 5592405) = (l.val / 2 &&& 85) ∧ am_n1 l.val < 171 := by decide +kernel
theorem am_byte2 : ∀ l : Fin 171, (l.val &&& 858993459) = (l.val &&& 51) ∧ (l.val &&& 3355443) = (l.val &&& 51) ∧ (l.val / 4 &&& 858993459) = (l.val / 4 &&& 51) ∧ (l.val / 4 &&& 3355443) = (l.val / 4 &&& 51) := by decide +kernel
theorem am_byte3 : ∀ l : Fin 256, am_n2 (am_n1 l.val) ≤ 68 ∧ am_n2 (am_n1 l.val) % 16 ≤ 4 := by decide +kernel
theorem am_lo1 : ∀ c : Fin 2, ∀ l : Fin 128, (128 * c.val + l.val &&& 85) = (l.val &&& 85) := by decide +kernel
theorem am_lo2 : ∀ c : Fin 4, ∀ l : Fin 64, (64 * c.val + l.val &&& 51) = (l.val &&& 51) := by decide +kernel
theorem am_lo3 : ∀ c : Fin 5, ∀ l : Fin 69, (l.val + (16 * c.val + l.val / 16) &&& 15) = am_n3 l.val ∧ (l.val + l.val / 16 &&& 986895) = am_n3 l.val := by decide +kernel
theorem am_n1_split {h l : Nat} (hh : h < 256) (hl : l < 256) : am_n1 (256 * h + l) = 256 * am_n1 h + am_n1 l := by
  obtain ⟨a1, a2, -⟩ := am_byte ⟨h, hh⟩
  obtain ⟨b1, b2, -⟩ := am_byte ⟨l, hl⟩
  simp only at a1 a2 b1 b2
  have e : (256 * h + l) / 2 = 256 * (h / 2) + (128 * (h % 2) + l / 2) := by omega
  have e2 : (1431655765 : Nat) = 256 * 5592405 + 85 := rfl
  have e3 : ((256 * h + l) / 2 &&& 1431655765) = 256 * (h / 2 &&& 85) + (l / 2 &&& 85) := by
    rw [e, e2, am_split (by omega) (by omega), a2]
    have := am_lo1 ⟨h % 2, by omega⟩ ⟨l / 2, by omega⟩
    simp only at this
    rw [this]
  have l1 : (h / 2 &&& 85) ≤ h / 2 := Nat.and_le_left
  have l2 : (l / 2 &&& 85) ≤ l / 2 := Nat.and_le_left
  rw [am_n1, e3, am_n1, am_n1, a1, b1]
  omega
theorem am_n2_split {h l : Nat} (hh : h < 171) (hl : l < 171) : am_n2 (256 * h + l) = 256 * am_n2 h + am_n2 l := by
  obtain ⟨a1, a2, a3, a4⟩ := am_byte2 ⟨h, hh⟩
  obtain ⟨b1, b2, b3, b4⟩ := am_byte2 ⟨l, hl⟩
  simp only at a1 a2 a3 a4 b1 b2 b3 b4
  have e : (256 * h + l) / 4 = 256 * (h / 4) + (64 * (h % 4) + l / 4) := by omega
  have e2 : (858993459 : Nat) = 256 * 3355443 + 51 := rfl
  have e3 : ((256 * h + l) / 4 &&& 858993459) = 256 * (h / 4 &&& 51) + (l / 4 &&& 51) := by
    rw [e, e2, am_split (by omega) (by omega), a4]
    have := am_lo2 ⟨h % 4, by omega⟩ ⟨l / 4, by omega⟩
    simp only at this
    rw [this]
  have e4 : (256 * h + l &&& 858993459) = 256 * (h &&& 51) + (l &&& 51) := by
    rw [e2, am_split (by omega) (by omega), a2]
  rw [am_n2, e3, e4, am_n2, am_n2, a1, a3, b1, b3]
  omega
theorem am_n3_split {h l : Nat} (hh : h ≤ 68) (h4 : h % 16 ≤ 4) (hl : l ≤ 68) : am_n3 (256 * h + l) = 256 * am_n3 h + am_n3 l := by
  have e : 256 * h + l + (256 * h + l) / 16 = 256 * (h + h / 16) + (l + (16 * (h % 16) + l / 16)) := by omega
  have e2 : (252645135 : Nat) = 256 * 986895 + 15 := rfl
  have c1 := (am_lo3 ⟨h % 16, by omega⟩ ⟨l, by omega⟩).1
  have c2 := (am_lo3 ⟨0, by omega⟩ ⟨h, by omega⟩).2
  simp only at c1 c2
  have e5 : am_n3 (256 * h + l) = (256 * h + l + (256 * h + l) / 16 &&& 252645135) := rfl
  rw [e5, e, e2, am_split (by omega) (by omega), c1, c2]
theorem am_F8 : ∀ l : Fin 256, am_F l.val = ps_cnt (fun k => l.val.testBit k) 8 ∧ am_F l.val ≤ 8 := by decide +kernel
theorem am_end : ∀ h l : Fin 9, (am_n5 (am_n4 (256 * h.val + l.val)) &&& 63) = l.val + h.val := by decide +kernel
theorem ps_cnt_add (p : Nat → Bool) (m : Nat) : ∀ n, ps_cnt p (m + n) = ps_cnt p m + ps_cnt (fun k => p (m + k)) n
  | 0 => rfl
  | n + 1 => by
    have := ps_cnt_add p m n
    rw [← Nat.add_assoc, ps_cnt, this, ps_cnt]
    omega
theorem ps_cnt_congr {p q : Nat → Bool} : ∀ n, (∀ k, k < n → p k = q k) → ps_cnt p n = ps_cnt q n
  | 0, _ => rfl
  | n + 1, h => by rw [ps_cnt, ps_cnt, h n (by omega), ps_cnt_congr n (fun k hk => h k (by omega))]
theorem am_bcN {a : Nat} (ha : a < 65536) : (am_n5 (am_n4 (am_n3 (am_n2 (am_n1 a)))) &&& 63) = ps_pc a := by
  have hh : a / 256 < 256 := by omega
  have hl : a % 256 < 256 := by omega
  have ea : 256 * (a / 256) + a % 256 = a := by omega
  generalize a / 256 = h at hh ea
  generalize a % 256 = l at hl ea
  subst ea
  obtain ⟨-, -, n1⟩ := am_byte ⟨h, hh⟩
  obtain ⟨-, -, n2⟩ := am_byte ⟨l, hl⟩
  obtain ⟨n3, n4⟩ := am_byte3 ⟨h, hh⟩
  obtain ⟨n5, -⟩ := am_byte3 ⟨l, hl⟩
  obtain ⟨f1, f2⟩ := am_F8 ⟨h, hh⟩
  obtain ⟨f3, f4⟩ := am_F8 ⟨l, hl⟩
  simp only at n1 n2 n3 n4 n5 f1 f2 f3 f4
  rw [am_n1_split hh hl, am_n2_split n1 n2, am_n3_split n3 n4 n5]
  have hend := am_end ⟨am_F h, by omega⟩ ⟨am_F l, by omega⟩
  simp only [am_F] at hend
  rw [hend]
  have e1 : ps_pc (256 * h + l) = ps_cnt (fun k => l.testBit k) 8 + ps_cnt (fun k => h.testBit k) 8 := by
    rw [ps_pc, ps_cnt_add _ 8 8]
    congr 1
    · apply ps_cnt_congr
      intro k hk
      rw [show (256 : Nat) = 2 ^ 8 from rfl, Nat.testBit_two_pow_mul_add h hl, if_pos hk]
    · apply ps_cnt_congr
      intro k hk
      rw [show (256 : Nat) = 2 ^ 8 from rfl, Nat.testBit_two_pow_mul_add h hl, if_neg (by omega), Nat.add_sub_cancel_left]
  rw [e1, ← f1, ← f3]
  rfl
theorem c1200 (d : Nat) {a : Nat} (ha : a < 65536) (μ : am_Mem) : am_call (d + 1) 1200 [.int (nI a)] μ = am_ret (some (.int (nI (ps_pc a)))) μ := by
  have e : am_call (d + 1) 1200 [.int (nI a)] μ = am_ret (some (.int (am_f5 (am_f4 (am_f3 (am_f2 (am_f1 (nI a))))) &&& am_c 63))) μ := by
    rw [e1200, q1200_0]
    rfl
  have hl : am_n1 a ≤ a := Nat.sub_le _ _
  have h2 : am_n2 (am_n1 a) ≤ 2 * a := by
    have h1 : (am_n1 a &&& 858993459) ≤ am_n1 a := Nat.and_le_left
    have h2 : (am_n1 a / 4 &&& 858993459) ≤ am_n1 a / 4 := Nat.and_le_left
    rw [am_n2]
    omega
  have h3 : am_n3 (am_n2 (am_n1 a)) ≤ 252645135 := Nat.and_le_right
  have h4 : am_n4 (am_n3 (am_n2 (am_n1 a))) ≤ 2 * 252645135 := by
    rw [am_n4]
    omega
  have hv := am_bcN ha
  rw [e, am_f1N (by omega), am_f2N (by omega), am_f3N (by omega), am_f4N (by omega), am_f5N (by omega), am_cN, am_and, hv]
