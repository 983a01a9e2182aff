/-! what a step that comes through says of the state -/
theorem am_gb.o {b : Bool} {R : am_R} {μ : am_Mem} {r : Option Value} (h : am_gb b R μ r) : b = true ∧ R μ r := by
  cases b
  · exact h.elim
  · exact ⟨rfl, h⟩
theorem am_ldI.o {k : Int32 → am_R} {μ : am_Mem} {r : Option Value} : ∀ {ls : am_V} {n : Nat}, am_ldI ls n k μ r → ∃ x, ls[n]? = some (.int x) ∧ k x μ r
  | [], _, h => h.elim
  | v :: l, 0, h => by
    unfold am_ldI at h
    split at h
    · exact ⟨_, rfl, h⟩
    · exact h.elim
  | v :: l, n + 1, h => by
    obtain ⟨x, h1, h2⟩ := am_ldI.o (ls := l) (n := n) h
    exact ⟨x, by simpa using h1, h2⟩
def am_Av (v : Value) : Prop := (∃ K, v = .ref K) ∨ (∃ i, v = .retAddr i) ∨ ∃ u, v = .float u
theorem am_isA.o {v : Value} {R : am_R} {μ : am_Mem} {r : Option Value} (h : am_isA v R μ r) : am_Av v ∧ R μ r := by
  unfold am_isA at h
  split at h
  · exact ⟨Or.inl ⟨_, rfl⟩, h⟩
  · exact ⟨Or.inr (Or.inl ⟨_, rfl⟩), h⟩
  · exact ⟨Or.inr (Or.inr ⟨_, rfl⟩), h⟩
  · exact h.elim
theorem am_is1.o {v : Value} {R : am_R} {μ : am_Mem} {r : Option Value} (h : am_is1 v R μ r) : ((∃ x, v = .int x) ∨ ∃ K, v = .ref K) ∧ R μ r := by
  unfold am_is1 at h
  split at h
  · exact ⟨Or.inl ⟨_, rfl⟩, h⟩
  · exact ⟨Or.inr ⟨_, rfl⟩, h⟩
  · exact h.elim
theorem am_ldA.o {k : Value → am_R} {μ : am_Mem} {r : Option Value} : ∀ {ls : am_V} {n : Nat}, am_ldA ls n k μ r → ∃ v, ls[n]? = some v ∧ am_Av v ∧ k v μ r
  | [], _, h => h.elim
  | v :: l, 0, h => ⟨v, rfl, am_isA.o h⟩
  | v :: l, n + 1, h => by
    obtain ⟨x, h1, h2⟩ := am_ldA.o (ls := l) (n := n) h
    exact ⟨x, by simpa using h1, h2⟩
theorem am_sto.o {v : Value} {μ : am_Mem} {r : Option Value} : ∀ {ls : am_V} {n : Nat} {k : am_V → am_R}, am_sto ls n v k μ r → n < ls.length ∧ k (ls.set n v) μ r
  | [], _, _, h => h.elim
  | _ :: l, 0, _, h => ⟨Nat.zero_lt_succ _, h⟩
  | a :: l, n + 1, _, h => by
    obtain ⟨h1, h2⟩ := am_sto.o (ls := l) (n := n) h
    exact ⟨Nat.succ_lt_succ h1, h2⟩
theorem am_lkE.o {α : Type} {k : α → am_R} {e : am_R} {μ : am_Mem} {r : Option Value} : ∀ {l : List (Nat × α)} {j : Nat}, am_lkE l j k e μ r → (∃ a, (j, a) ∈ l ∧ k a μ r) ∨ e μ r
  | [], _, h => Or.inr h
  | q :: l, j, h => by
    rw [am_lkE] at h
    cases hq : Nat.beq q.1 j with
    | true =>
      rw [hq] at h
      have e := Nat.eq_of_beq_eq_true hq
      exact Or.inl ⟨q.2, by rw [← e]; exact List.mem_cons_self, h⟩
    | false =>
      rw [hq] at h
      rcases am_lkE.o (l := l) h with ⟨a, h1, h2⟩ | h
      · exact Or.inl ⟨a, List.mem_cons_of_mem _ h1, h2⟩
      · exact Or.inr h
def am_in2 {α : Type} (t : List (Nat × List (Nat × α))) (c i : Nat) (a : α) : Prop := ∃ l, (c, l) ∈ t ∧ (i, a) ∈ l
theorem am_lk2.o {α : Type} {t : List (Nat × List (Nat × α))} {c i : Nat} {k : α → am_R} {e : am_R} {μ : am_Mem} {r : Option Value} (h : am_lk2 t c i k e μ r) : (∃ a, am_in2 t c i a ∧ k a μ r) ∨ e μ r := by
  rcases am_lkE.o h with ⟨l, h1, h2⟩ | h
  · rcases am_lkE.o h2 with ⟨a, h3, h4⟩ | h
    · exact Or.inl ⟨a, ⟨l, h1, h3⟩, h4⟩
    · exact Or.inr h
  · exact Or.inr h
theorem am_fl.o {own idx : Nat} {k : Nat × Nat → am_R} {μ : am_Mem} {r : Option Value} (h : am_fl own idx k μ r) : ∃ q, (am_in2 am_FT own idx q ∨ am_in2 am_NT own idx q) ∧ k q μ r := by
  rcases am_lk2.o h with ⟨q, h1, h2⟩ | h
  · exact ⟨q, Or.inl h1, h2⟩
  · rcases am_lk2.o h with ⟨q, h1, h2⟩ | h
    · exact ⟨q, Or.inr h1, h2⟩
    · exact h.elim
theorem am_cell.o {K : Nat} {kO : Nat → List Nat → am_R} {kA : Nat → Nat → am_R} {μ : am_Mem} {r : Option Value} (h : am_cell K kO kA μ r) : (∃ q, am_L[K]? = some (.inl q) ∧ kO q.1 q.2 μ r) ∨ ∃ q, am_L[K]? = some (.inr q) ∧ kA q.1 q.2 μ r := by
  rw [am_cell] at h
  cases hl : am_L[K]? with
  | none => rw [hl] at h; exact h.elim
  | some z =>
    rw [hl] at h
    cases z with
    | inl q => exact Or.inl ⟨q, rfl, h⟩
    | inr q => exact Or.inr ⟨q, rfl, h⟩
theorem am_obj.o {K ci : Nat} {k : List Nat → am_R} {μ : am_Mem} {r : Option Value} (h : am_obj K ci k μ r) : ∃ fs, am_L[K]? = some (.inl (ci, fs)) ∧ k fs μ r := by
  rcases am_cell.o h with ⟨q, h1, h2⟩ | ⟨q, h1, h2⟩
  · obtain ⟨h3, h4⟩ := am_gb.o h2
    have e := Nat.eq_of_beq_eq_true h3
    exact ⟨q.2, by rw [h1, ← e], h4⟩
  · exact h2.elim
theorem am_arr.o {K t : Nat} {k : Nat → am_R} {μ : am_Mem} {r : Option Value} (h : am_arr K t k μ r) : ∃ n, am_L[K]? = some (.inr (t, n)) ∧ k n μ r := by
  rcases am_cell.o h with ⟨q, h1, h2⟩ | ⟨q, h1, h2⟩
  · exact h2.elim
  · obtain ⟨h3, h4⟩ := am_gb.o h2
    have e := Nat.eq_of_beq_eq_true h3
    exact ⟨q.2, by rw [h1, ← e], h4⟩
theorem am_p1.o {st : am_V} {k : Int32 → am_V → am_R} {μ : am_Mem} {r : Option Value} (h : am_p1 st k μ r) : ∃ x st', st = .int x :: st' ∧ k x st' μ r := by
  unfold am_p1 at h
  split at h
  · split at h
    · exact ⟨_, _, rfl, h⟩
    · exact h.elim
  · exact h.elim
theorem am_bA.o {st : am_V} {k : Value → am_V → am_R} {μ : am_Mem} {r : Option Value} (h : am_bA st k μ r) : ∃ x st', st = x :: st' ∧ k x st' μ r := by
  unfold am_bA at h
  split at h
  · exact ⟨_, _, rfl, h⟩
  · exact h.elim
theorem am_bF.o {st : am_V} {k : Nat → am_V → am_R} {μ : am_Mem} {r : Option Value} (h : am_bF st k μ r) : ∃ x st', st = .ref x :: st' ∧ k x st' μ r := by
  unfold am_bF at h
  split at h
  · split at h
    · exact ⟨_, _, rfl, h⟩
    · exact h.elim
  · exact h.elim
theorem am_p2.o {st : am_V} {k : Int32 → Int32 → am_V → am_R} {μ : am_Mem} {r : Option Value} (h : am_p2 st k μ r) : ∃ x y st', st = .int y :: .int x :: st' ∧ k x y st' μ r := by
  obtain ⟨y, s1, rfl, h1⟩ := am_p1.o h
  obtain ⟨x, s2, rfl, h2⟩ := am_p1.o h1
  exact ⟨x, y, s2, rfl, h2⟩
theorem am_pop.o {k : am_V → am_V → am_R} {μ : am_Mem} {r : Option Value} : ∀ {n : Nat} {st acc : am_V}, am_pop n st acc k μ r → ∃ a st', st = a.reverse ++ st' ∧ a.length = n ∧ k (a ++ acc) st' μ r
  | 0, st, acc, h => ⟨[], st, rfl, rfl, h⟩
  | n + 1, [], acc, h => h.elim
  | n + 1, v :: st, acc, h => by
    obtain ⟨a, st', h1, h2, h3⟩ := am_pop.o (n := n) (st := st) (acc := v :: acc) h
    exact ⟨a ++ [v], st', by rw [h1]; simp, by simp [h2], by simpa using h3⟩
theorem am_ixIn {i : Int32} {n : Nat} (hn : n ≤ 2147483648) (h : Nat.blt (am_ix i) n = true) : vp_in i n ∧ i.toNatClampNeg = am_ix i := by
  have h1 : am_ix i < n := Nat.lt_of_succ_le (Nat.le_of_ble_eq_true h)
  have e : i.toInt = (am_ix i : Int) := by
    have e1 : i.toInt = i.toBitVec.toInt := rfl
    have e2 : am_ix i = i.toBitVec.toNat := rfl
    rw [e1, e2, BitVec.toInt_eq_toNat_of_lt]
    rw [e2] at h1
    omega
  have e3 : i.toNatClampNeg = am_ix i := by
    show i.toInt.toNat = _
    rw [e]
    rfl
  refine ⟨fun hc => ?_, e3⟩
  rcases hc with hc | hc
  · have := Int32.lt_iff_toInt_lt.mp hc
    rw [e] at this
    have z : (0 : Int32).toInt = 0 := rfl
    rw [z] at this
    omega
  · rw [e3] at hc
    omega
