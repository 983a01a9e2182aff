/-! the most heads: pure part -/
def ps_mx (F : Nat → Nat) : Nat → Nat
  | 0 => 0
  | k + 1 => max (ps_mx F k) (F k)
theorem ps_mx_le {F : Nat → Nat} {b : Nat} : ∀ {k : Nat}, (∀ s, s < k → F s ≤ b) → ps_mx F k ≤ b
  | 0, _ => Nat.zero_le _
  | k + 1, h => Nat.max_le.mpr ⟨ps_mx_le (fun s hs => h s (by omega)), h k (by omega)⟩
theorem ps_le_mx {F : Nat → Nat} {s : Nat} : ∀ {k : Nat}, s < k → F s ≤ ps_mx F k
  | 0, h => by omega
  | k + 1, h => by
    rw [ps_mx]
    by_cases hs : s = k
    · subst hs; exact Nat.le_max_right _ _
    · exact Nat.le_trans (ps_le_mx (k := k) (by omega)) (Nat.le_max_left _ _)
theorem ps_mx_ex {F : Nat → Nat} : ∀ {k : Nat}, 0 < k → ∃ s, s < k ∧ ps_mx F k = F s
  | 0, h => by omega
  | k + 1, _ => by
    rw [ps_mx]
    rcases Nat.le_total (ps_mx F k) (F k) with h | h
    · exact ⟨k, by omega, Nat.max_eq_right h⟩
    · rw [Nat.max_eq_left h]
      cases k with
      | zero =>
        have h0 : ps_mx F 0 = 0 := rfl
        rw [h0] at h ⊢
        exact ⟨0, by omega, by omega⟩
      | succ k =>
        obtain ⟨s, h1, h2⟩ := ps_mx_ex (F := F) (k := k + 1) (by omega)
        exact ⟨s, by omega, h2⟩
def ps_al (p : Nat → Bool) : Nat → Bool
  | 0 => true
  | n + 1 => ps_al p n && p n
theorem ps_al_iff {p : Nat → Bool} : ∀ {n : Nat}, ps_al p n = true ↔ ∀ k, k < n → p k = true
  | 0 => by simp [ps_al]
  | n + 1 => by
    rw [ps_al, Bool.and_eq_true, ps_al_iff (n := n)]
    constructor
    · rintro ⟨h1, h2⟩ k hk
      by_cases hkn : k = n
      · rw [hkn]; exact h2
      · exact h1 k (by omega)
    · intro h
      exact ⟨fun k hk => h k (by omega), h n (by omega)⟩
def ps_fits (n : Nat) (c : Nat → Nat) (s : Nat) : Bool := ps_al (fun k => !s.testBit k || decide (1 ≤ c k)) n
theorem ps_fits_iff {n : Nat} {c : Nat → Nat} {s : Nat} : ps_fits n c s = true ↔ ∀ k, k < n → s.testBit k = true → 1 ≤ c k := by
  rw [ps_fits, ps_al_iff]
  constructor
  · intro h k hk hs
    have := h k hk
    rw [hs] at this
    simpa using this
  · intro h k hk
    cases hs : s.testBit k with
    | false => rfl
    | true => rw [decide_eq_true (h k hk hs)]; rfl
def ps_sb (c : Nat → Nat) (s : Nat) : Nat → Nat := fun k => c k - (s.testBit k).toNat
section Mst
variable {G : Nat → Nat → Bool} {n : Nat}
def ps_V (G : Nat → Nat → Bool) (n : Nat) : Nat → (Nat → Nat) → Nat
  | 0, _ => 0
  | j + 1, c => ps_mx (fun s => if s = 0 then ps_V G n j c else if G (n - (j + 1)) s = true ∧ ps_fits n c s = true then 1 + ps_V G n j (ps_sb c s) else 0) (2 ^ n)
theorem ps_V_ge0 {j : Nat} {c : Nat → Nat} : ps_V G n j c ≤ ps_V G n (j + 1) c := by
  have := ps_le_mx (F := fun s => if s = 0 then ps_V G n j c else if G (n - (j + 1)) s = true ∧ ps_fits n c s = true then 1 + ps_V G n j (ps_sb c s) else 0) (s := 0) (k := 2 ^ n) (Nat.two_pow_pos n)
  rw [ps_V]
  exact this
theorem ps_V_ge {j s : Nat} {c : Nat → Nat} (h0 : s ≠ 0) (hs : s < 2 ^ n) (hg : G (n - (j + 1)) s = true) (hf : ps_fits n c s = true) : 1 + ps_V G n j (ps_sb c s) ≤ ps_V G n (j + 1) c := by
  have := ps_le_mx (F := fun s => if s = 0 then ps_V G n j c else if G (n - (j + 1)) s = true ∧ ps_fits n c s = true then 1 + ps_V G n j (ps_sb c s) else 0) (s := s) (k := 2 ^ n) hs
  rw [ps_V]
  have h2 : (if s = 0 then ps_V G n j c else if G (n - (j + 1)) s = true ∧ ps_fits n c s = true then 1 + ps_V G n j (ps_sb c s) else 0) = 1 + ps_V G n j (ps_sb c s) := by rw [if_neg h0, if_pos ⟨hg, hf⟩]
  exact h2 ▸ this
theorem ps_V_ex {j : Nat} {c : Nat → Nat} : ps_V G n (j + 1) c = ps_V G n j c ∨ ∃ s, s ≠ 0 ∧ s < 2 ^ n ∧ G (n - (j + 1)) s = true ∧ ps_fits n c s = true ∧ ps_V G n (j + 1) c = 1 + ps_V G n j (ps_sb c s) := by
  obtain ⟨s, h1, h2⟩ := ps_mx_ex (F := fun s => if s = 0 then ps_V G n j c else if G (n - (j + 1)) s = true ∧ ps_fits n c s = true then 1 + ps_V G n j (ps_sb c s) else 0) (k := 2 ^ n) (Nat.two_pow_pos n)
  have h3 : ps_V G n (j + 1) c = (if s = 0 then ps_V G n j c else if G (n - (j + 1)) s = true ∧ ps_fits n c s = true then 1 + ps_V G n j (ps_sb c s) else 0) := h2
  by_cases h0 : s = 0
  · rw [if_pos h0] at h3
    exact Or.inl h3
  · rw [if_neg h0] at h3
    by_cases hg : G (n - (j + 1)) s = true ∧ ps_fits n c s = true
    · rw [if_pos hg] at h3
      exact Or.inr ⟨s, h0, h1, hg.1, hg.2, h3⟩
    · rw [if_neg hg] at h3
      have := ps_V_ge0 (G := G) (n := n) (j := j) (c := c)
      exact Or.inl (by omega)
theorem ps_V_mono : ∀ {j : Nat} {c c' : Nat → Nat}, (∀ k, k < n → c k ≤ c' k) → ps_V G n j c ≤ ps_V G n j c'
  | 0, _, _, _ => Nat.le_refl _
  | j + 1, c, c', h => by
    rcases ps_V_ex (G := G) (n := n) (j := j) (c := c) with he | ⟨s, h1, h2, h3, h4, h5⟩
    · rw [he]
      exact Nat.le_trans (ps_V_mono h) ps_V_ge0
    · rw [h5]
      have hf : ps_fits n c' s = true := ps_fits_iff.mpr (fun k hk hs => Nat.le_trans (ps_fits_iff.mp h4 k hk hs) (h k hk))
      refine Nat.le_trans (Nat.add_le_add_left (ps_V_mono (fun k hk => ?_)) 1) (ps_V_ge h1 h2 h3 hf)
      exact Nat.sub_le_sub_right (h k hk) _
theorem ps_V_congr {j : Nat} {c c' : Nat → Nat} (h : ∀ k, k < n → c k = c' k) : ps_V G n j c = ps_V G n j c' := Nat.le_antisymm (ps_V_mono (fun k hk => by rw [h k hk]; exact Nat.le_refl _)) (ps_V_mono (fun k hk => by rw [h k hk]; exact Nat.le_refl _))
def ps_sl (G : Nat → Nat → Bool) (n h : Nat) : List Nat := (ps_rg (2 ^ n - 1) 1).filter (G h)
theorem ps_sl_mem {h s : Nat} : s ∈ ps_sl G n h ↔ (s ≠ 0 ∧ s < 2 ^ n) ∧ G h s = true := by
  have hp := Nat.two_pow_pos n
  rw [ps_sl, List.mem_filter, ps_rg_mem]
  constructor
  · rintro ⟨h1, h2⟩
    exact ⟨by omega, h2⟩
  · rintro ⟨h1, h2⟩
    exact ⟨by omega, h2⟩
def ps_tl (G : Nat → Nat → Bool) (n : Nat) : Nat → Nat
  | 0 => 0
  | j + 1 => ps_tl G n j + (if 0 < (ps_sl G n (n - (j + 1))).length then 1 else 0)
theorem ps_V_tl : ∀ {j : Nat} {c : Nat → Nat}, ps_V G n j c ≤ ps_tl G n j
  | 0, _ => Nat.le_refl _
  | j + 1, c => by
    rw [ps_tl]
    rcases ps_V_ex (G := G) (n := n) (j := j) (c := c) with he | ⟨s, h1, h2, h3, h4, h5⟩
    · rw [he]
      have := ps_V_tl (j := j) (c := c)
      omega
    · have hm : s ∈ ps_sl G n (n - (j + 1)) := ps_sl_mem.mpr ⟨⟨h1, h2⟩, h3⟩
      have hl : 0 < (ps_sl G n (n - (j + 1))).length := List.length_pos_of_mem hm
      rw [if_pos hl, h5]
      have := ps_V_tl (j := j) (c := ps_sb c s)
      omega
theorem ps_tl_le : ∀ (j : Nat), ps_tl G n j ≤ j
  | 0 => Nat.le_refl _
  | j + 1 => by
    rw [ps_tl]
    have := ps_tl_le j
    split <;> omega
/-- the sets that need be tried -/
def ps_ll (G : Nat → Nat → Bool) (n h sg : Nat) : List Nat := (ps_sl G n h).filter (fun s => decide (s &&& sg = 0) || decide (ps_pc s = 1))
theorem ps_pc_pow {k : Nat} (hk : k < 16) : ps_pc (2 ^ k) = 1 := by
  have := ps_cnt_or (a := 0) (w := k) (n := 16) hk (by simp)
  rw [Nat.zero_or, ps_cnt0] at this
  exact this
theorem ps_most_fin {j sg b : Nat} {c : Nat → Nat} (hn : n ≤ 16) (hsg : ∀ k, sg.testBit k = true → k < n ∧ G (n - (j + 1)) (2 ^ k) = true) (h1 : b ≤ ps_V G n (j + 1) c) (h2 : ps_tl G n (j + 1) ≤ b ∨ ∀ s, s ∈ ps_ll G n (n - (j + 1)) sg → ps_fits n c s = true → 1 + ps_V G n j (ps_sb c s) ≤ b) : (if ps_tl G n j ≤ b then b else max b (ps_V G n j c)) = ps_V G n (j + 1) c := by
  apply Nat.le_antisymm
  · split
    · exact h1
    · exact Nat.max_le.mpr ⟨h1, ps_V_ge0⟩
  · have hb : b ≤ (if ps_tl G n j ≤ b then b else max b (ps_V G n j c)) := by
      split
      · exact Nat.le_refl _
      · exact Nat.le_max_left _ _
    rcases h2 with h2 | h2
    · exact Nat.le_trans ps_V_tl (Nat.le_trans h2 hb)
    · rcases ps_V_ex (G := G) (n := n) (j := j) (c := c) with he | ⟨s, s1, s2, s3, s4, s5⟩
      · rw [he]
        split
        · rename_i ht
          exact Nat.le_trans ps_V_tl ht
        · exact Nat.le_max_right _ _
      · rw [s5]
        refine Nat.le_trans ?_ hb
        have hm : s ∈ ps_sl G n (n - (j + 1)) := ps_sl_mem.mpr ⟨⟨s1, s2⟩, s3⟩
        by_cases hl : (decide (s &&& sg = 0) || decide (ps_pc s = 1)) = true
        · exact h2 s (List.mem_filter.mpr ⟨hm, hl⟩) s4
        · have hne : s &&& sg ≠ 0 := by
            intro e
            rw [decide_eq_true e] at hl
            exact hl rfl
          obtain ⟨k, hk⟩ : ∃ k, (s &&& sg).testBit k = true := by
            apply Classical.byContradiction
            intro hno
            apply hne
            apply Nat.eq_of_testBit_eq
            intro i
            rw [Nat.zero_testBit]
            cases hb : (s &&& sg).testBit i with
            | false => rfl
            | true => exact absurd ⟨i, hb⟩ hno
          rw [Nat.testBit_and, Bool.and_eq_true] at hk
          obtain ⟨g1, g2⟩ := hsg k hk.2
          have hp : 2 ^ k < 2 ^ n := Nat.pow_lt_pow_right (by omega) g1
          have hp0 := Nat.two_pow_pos k
          have hm2 : 2 ^ k ∈ ps_ll G n (n - (j + 1)) sg := List.mem_filter.mpr ⟨ps_sl_mem.mpr ⟨⟨by omega, hp⟩, g2⟩, by rw [decide_eq_true (ps_pc_pow (by omega))]; simp⟩
          have hf2 : ps_fits n c (2 ^ k) = true := ps_fits_iff.mpr (fun i hi hb => by
            rw [Nat.testBit_two_pow, decide_eq_true_eq] at hb
            rw [← hb]
            exact ps_fits_iff.mp s4 k g1 hk.1)
          refine Nat.le_trans (Nat.add_le_add_left (ps_V_mono (fun i hi => ?_)) 1) (h2 _ hm2 hf2)
          show c i - (s.testBit i).toNat ≤ c i - ((2 ^ k).testBit i).toNat
          rw [Nat.testBit_two_pow]
          by_cases hik : k = i
          · subst hik
            rw [hk.1, decide_eq_true rfl]
            exact Nat.le_refl _
          · rw [decide_eq_false hik]
            show c i - (s.testBit i).toNat ≤ c i - 0
            omega
end Mst
/-! uses left, two bits each -/
def ps_en (c : Nat → Nat) : Nat → Nat
  | 0 => 0
  | n + 1 => ps_en c n + c n * 4 ^ n
theorem ps_en_lt {c : Nat → Nat} : ∀ {n : Nat}, (∀ k, k < n → c k ≤ 3) → ps_en c n < 4 ^ n
  | 0, _ => by simp [ps_en]
  | n + 1, h => by
    have ih := ps_en_lt (c := c) (n := n) (fun k hk => h k (by omega))
    have h3 := h n (by omega)
    have hm : c n * 4 ^ n ≤ 3 * 4 ^ n := Nat.mul_le_mul_right _ h3
    rw [ps_en, Nat.pow_succ]
    omega
theorem ps_four (n : Nat) : 4 ^ n = 2 ^ (2 * n) := by rw [Nat.pow_mul]
theorem ps_en_step {c : Nat → Nat} {n : Nat} (h : ∀ k, k < n → c k ≤ 3) : ps_en c (n + 1) = ps_en c n ||| c n * 4 ^ n ∧ ps_en c (n + 1) = 2 ^ (2 * n) * c n + ps_en c n := by
  have hl := ps_en_lt h
  rw [ps_four] at hl
  have := Nat.two_pow_add_eq_or_of_lt hl (c n)
  rw [ps_en, ps_four, Nat.mul_comm (c n), Nat.or_comm, ← this]
  exact ⟨Nat.add_comm _ _, Nat.add_comm _ _⟩
theorem ps_en_bit {c : Nat → Nat} : ∀ {n : Nat}, (∀ k, k < n → c k ≤ 3) → ∀ k, k < n → (ps_en c n).testBit (2 * k) = (c k).testBit 0 ∧ (ps_en c n).testBit (2 * k + 1) = (c k).testBit 1
  | 0, _, k, hk => by omega
  | n + 1, h, k, hk => by
    have hl := ps_en_lt (c := c) (n := n) (fun k hk => h k (by omega))
    rw [ps_four] at hl
    rw [(ps_en_step (c := c) (n := n) (fun k hk => h k (by omega))).2, Nat.testBit_two_pow_mul_add _ hl, Nat.testBit_two_pow_mul_add _ hl]
    by_cases hkn : k = n
    · subst hkn
      rw [if_neg (by omega), if_neg (by omega), Nat.sub_self, Nat.add_sub_cancel_left]
      exact ⟨rfl, rfl⟩
    · rw [if_pos (by omega), if_pos (by omega)]
      exact ps_en_bit (n := n) (fun k hk => h k (by omega)) k (by omega)
theorem ps_en_div {c : Nat → Nat} : ∀ {n : Nat}, (∀ k, k < n → c k ≤ 3) → ∀ k, k < n → ps_en c n / 4 ^ k % 4 = c k
  | 0, _, k, hk => by omega
  | n + 1, h, k, hk => by
    have hl := ps_en_lt (c := c) (n := n) (fun k hk => h k (by omega))
    have h3 := h k hk
    by_cases hkn : k = n
    · subst hkn
      rw [ps_en, Nat.add_mul_div_right _ _ (Nat.pow_pos (by omega)), Nat.div_eq_of_lt hl, Nat.zero_add]
      omega
    · have ih := ps_en_div (n := n) (fun k hk => h k (by omega)) k (by omega)
      obtain ⟨m, hm⟩ : ∃ m, n = k + 1 + m := ⟨n - k - 1, by omega⟩
      have e : c n * 4 ^ n = (4 * (c n * 4 ^ m)) * 4 ^ k := by
        rw [hm, Nat.pow_add, Nat.pow_succ]
        ac_rfl
      rw [ps_en, e, Nat.add_mul_div_right _ _ (Nat.pow_pos (by omega)), Nat.add_mul_mod_self_left]
      exact ih
theorem ps_en_add {a b : Nat → Nat} : ∀ (n : Nat), ps_en (fun k => a k + b k) n = ps_en a n + ps_en b n
  | 0 => rfl
  | n + 1 => by
    rw [ps_en, ps_en, ps_en, ps_en_add n, Nat.add_mul]
    omega
theorem ps_en_congr {a b : Nat → Nat} : ∀ {n : Nat}, (∀ k, k < n → a k = b k) → ps_en a n = ps_en b n
  | 0, _ => rfl
  | n + 1, h => by rw [ps_en, ps_en, ps_en_congr (fun k hk => h k (by omega)), h n (by omega)]
def ps_bits (s : Nat) : Nat → Nat := fun k => (s.testBit k).toNat
theorem ps_bits_le (s k : Nat) : ps_bits s k ≤ 1 := by unfold ps_bits; cases s.testBit k <;> decide
theorem ps_en_sb {c : Nat → Nat} {s n : Nat} (hf : ∀ k, k < n → s.testBit k = true → 1 ≤ c k) : ps_en c n = ps_en (ps_sb c s) n + ps_en (ps_bits s) n := by
  rw [← ps_en_add]
  apply ps_en_congr
  intro k hk
  show c k = c k - (s.testBit k).toNat + (s.testBit k).toNat
  cases hb : s.testBit k with
  | false => rfl
  | true =>
    have := hf k hk hb
    show c k = c k - 1 + 1
    omega
theorem ps_fit_en {c : Nat → Nat} {s : Nat} (hc : ∀ k, k < 7 → c k ≤ 3) : (ps_dif (ps_en (ps_bits s) 7) ((ps_en c 7 ||| ps_en c 7 / 2) &&& 5461) = 0) ↔ ∀ k, k < 7 → s.testBit k = true → 1 ≤ c k := by
  have hb : ∀ k, k < 7 → ps_bits s k ≤ 3 := fun k _ => Nat.le_trans (ps_bits_le s k) (by omega)
  have hbl : ps_en (ps_bits s) 7 < 2 ^ 14 := ps_en_lt hb
  have low : ∀ k, k < 7 → (5461 : Nat).testBit (2 * k) = true := by decide
  have key : ∀ k, k < 7 → ((ps_en c 7 ||| ps_en c 7 / 2) &&& 5461).testBit (2 * k) = decide (1 ≤ c k) := fun k hk => by
    rw [Nat.testBit_and, low k hk, Bool.and_true, Nat.testBit_or, Nat.testBit_div_two, (ps_en_bit hc k hk).1, (ps_en_bit hc k hk).2]
    have h3 := hc k hk
    rcases (show c k = 0 ∨ c k = 1 ∨ c k = 2 ∨ c k = 3 by omega) with e | e | e | e <;> rw [e] <;> decide
  rw [ps_dif0]
  constructor
  · intro h k hk hs
    have h1 : (ps_en (ps_bits s) 7).testBit (2 * k) = true := by rw [(ps_en_bit hb k hk).1, ps_bits, hs]; rfl
    have := h _ h1
    rw [key k hk] at this
    exact of_decide_eq_true this
  · intro h x hx
    have hx14 : x < 14 := by
      rcases Nat.lt_or_ge x 14 with z | z
      · exact z
      · rw [Nat.testBit_lt_two_pow (Nat.lt_of_lt_of_le hbl (Nat.pow_le_pow_right (by omega) z))] at hx
        exact absurd hx (by decide)
    rcases (show x = 2 * (x / 2) ∨ x = 2 * (x / 2) + 1 by omega) with e | e
    · rw [e] at hx ⊢
      rw [(ps_en_bit hb (x / 2) (by omega)).1] at hx
      rw [key _ (by omega)]
      refine decide_eq_true (h (x / 2) (by omega) ?_)
      unfold ps_bits at hx
      cases hs : s.testBit (x / 2) with
      | true => rfl
      | false => rw [hs] at hx; exact absurd hx (by decide)
    · rw [e, (ps_en_bit hb (x / 2) (by omega)).2] at hx
      have h1 := ps_bits_le s (x / 2)
      rcases (show ps_bits s (x / 2) = 0 ∨ ps_bits s (x / 2) = 1 by omega) with e1 | e1 <;> rw [e1] at hx <;> exact absurd hx (by decide)
