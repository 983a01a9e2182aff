/-! the lines of a law, typed, and what the law says -/
def ps_ty : List (Nat × Nat) → List Bool → Prop
  | [], ts => ts = [true]
  | q :: L, ts =>
    (q.1 ≤ 6 ∧ q.2 ≤ 9999 ∧ ts.length < 30 ∧ ps_ty L (false :: ts)) ∨ (q.1 = 16 ∧ 1 ≤ q.2 ∧ q.2 ≤ 9999 ∧ ts.length < 30 ∧ ∃ r, ts = false :: r ∧ ps_ty L (false :: r)) ∨ (q.1 = 20 ∧ ∃ r, ts = true :: r ∧ ps_ty L (true :: r)) ∨
    ((q.1 = 13 ∨ q.1 = 14 ∨ q.1 = 15) ∧ ∃ r, ts = false :: false :: r ∧ ps_ty L (false :: r)) ∨ ((q.1 = 17 ∨ q.1 = 18 ∨ q.1 = 19) ∧ ∃ r, ts = false :: false :: r ∧ ps_ty L (true :: r)) ∨ ((q.1 = 21 ∨ q.1 = 22) ∧ ∃ r, ts = true :: true :: r ∧ ps_ty L (true :: r))
theorem ps_ty.ok : ∀ {L : List (Nat × Nat)} {ts : List Bool}, ps_ty L ts → ps_ok L ts.length
  | [], ts, h => by
    have h : ts = [true] := h
    subst h
    rfl
  | q :: L, ts, h => by
    rcases h with ⟨h1, h2, h3, h4⟩ | ⟨h1, h2, h3, h4, r, rfl, h6⟩ | ⟨h1, r, rfl, h6⟩ | ⟨h1, r, rfl, h6⟩ | ⟨h1, r, rfl, h6⟩ | ⟨h1, r, rfl, h6⟩
    · exact Or.inl ⟨h1, h2, h3, h4.ok⟩
    · exact Or.inr (Or.inl ⟨h1, h2, h3, by simp, h4, h6.ok⟩)
    · exact Or.inr (Or.inr (Or.inl ⟨h1, by simp, h6.ok⟩))
    · exact Or.inr (Or.inr (Or.inr ⟨by omega, by simp, h6.ok⟩))
    · exact Or.inr (Or.inr (Or.inr ⟨by omega, by simp, h6.ok⟩))
    · exact Or.inr (Or.inr (Or.inr ⟨by omega, by simp, h6.ok⟩))
/-- the pile's values are of the types -/
def ps_fit : List Bool → List Int32 → Prop
  | [], [] => True
  | t :: ts, x :: xs => (t = true → x = 0 ∨ x = 1) ∧ ps_fit ts xs
  | _, _ => False
theorem ps_fit.run (env : Nat → Int32) : ∀ {L : List (Nat × Nat)} {ts : List Bool} {st : List Int32}, ps_ty L ts → ps_fit ts st → ∃ x, ps_run env L st = [x] ∧ (x = 0 ∨ x = 1)
  | [], ts, st, h, hf => by
    have h : ts = [true] := h
    subst h
    match st, hf with
    | [x], hf => exact ⟨x, rfl, hf.1 rfl⟩
    | [], hf => exact hf.elim
    | x :: y :: r, hf => exact hf.2.elim
  | q :: L, ts, st, h, hf => by
    rw [ps_run]
    unfold ps_step
    rcases h with ⟨h1, h2, h3, h4⟩ | ⟨h1, h2, h3, h4, r, rfl, h6⟩ | ⟨h1, r, rfl, h6⟩ | ⟨h1, r, rfl, h6⟩ | ⟨h1, r, rfl, h6⟩ | ⟨h1, r, rfl, h6⟩
    · rw [if_pos (by omega)]
      exact ps_fit.run env h4 ⟨(fun h => by cases h), hf⟩
    · rw [if_neg (by omega), if_pos h1]
      match st, hf with
      | a :: s, hf => exact ps_fit.run env h6 ⟨(fun h => by cases h), hf.2⟩
      | [], hf => exact hf.elim
    · rw [if_neg (by omega), if_neg (by omega), if_pos h1]
      match st, hf with
      | a :: s, hf =>
        refine ps_fit.run env h6 ⟨fun _ => ?_, hf.2⟩
        rcases hf.1 rfl with h | h
        · right; rw [h]; rfl
        · left; rw [h]; rfl
      | [], hf => exact hf.elim
    · rw [if_neg (by omega), if_neg (by omega), if_neg (by omega)]
      match st, hf with
      | b :: a :: s, hf => exact ps_fit.run env h6 ⟨(fun h => by cases h), hf.2.2⟩
      | [b], hf => exact hf.2.elim
      | [], hf => exact hf.elim
    · rw [if_neg (by omega), if_neg (by omega), if_neg (by omega)]
      match st, hf with
      | b :: a :: s, hf =>
        refine ps_fit.run env h6 ⟨fun _ => ?_, hf.2.2⟩
        have hz : ∀ (P : Prop) (dP : Decidable P), (@ite Int32 P dP 1 0) = 0 ∨ (@ite Int32 P dP 1 0) = 1 := fun P dP => by by_cases hP : P <;> simp [hP]
        rcases h1 with h | h | h
        · rw [h]; exact hz _ _
        · rw [h]; exact hz _ _
        · rw [h]; exact hz _ _
      | [b], hf => exact hf.2.elim
      | [], hf => exact hf.elim
    · rw [if_neg (by omega), if_neg (by omega), if_neg (by omega)]
      match st, hf with
      | b :: a :: s, hf =>
        refine ps_fit.run env h6 ⟨fun _ => ?_, hf.2.2⟩
        have hb := hf.1 rfl
        have ha := hf.2.1 rfl
        rcases h1 with h | h
        · rw [h]; rcases ha with rfl | rfl <;> rcases hb with rfl | rfl <;> decide
        · rw [h]; rcases ha with rfl | rfl <;> rcases hb with rfl | rfl <;> decide
      | [b], hf => exact hf.2.elim
      | [], hf => exact hf.elim
def ps_line (env : Nat → Int32) (L : List (Nat × Nat)) : Bool := L.isEmpty || decide ((ps_run env L []).headD 0 = 1)
def ps_says (env : Nat → Int32) : List (Bool × List (Nat × Nat)) → Bool
  | [] => false
  | q :: law => if ps_line env q.2 = true then q.1 else ps_says env law
def ps_posC (law : List (Bool × List (Nat × Nat))) (l : Nat) : Nat := ((law.take l).map (fun q => (ps_encs q.2).length)).sum
def ps_posM (law : List (Bool × List (Nat × Nat))) (l : Nat) : Nat := ((law.take l).map (fun q => q.2.length)).sum
/-- the law in the component's cells from B on; in the model's row W -/
def ps_Lc (B : Nat) (law : List (Bool × List (Nat × Nat))) (μ : am_Mem) : Prop := μ B 0 = nI law.length ∧ ∀ l q, law[l]? = some q → μ (B + 1) l = nI q.1.toNat ∧ μ (B + 2) l = nI (ps_posC law l) ∧ μ (B + 2) (l + 1) = nI (ps_posC law (l + 1)) ∧ ps_codeC (B + 3) (ps_encs q.2) (ps_posC law l) μ
def ps_Lm (W : Nat) (law : List (Bool × List (Nat × Nat))) (μ : am_Mem) : Prop := μ W 435 = nI law.length ∧ ∀ l q, law[l]? = some q → μ W (440 + l) = nI (!q.1).toNat ∧ μ W (460 + l) = nI (ps_posM law l) ∧ μ W (480 + l) = nI (ps_posM law (l + 1)) ∧ ps_codeM W q.2 (ps_posM law l) μ
def ps_Lw (law : List (Bool × List (Nat × Nat))) : Prop := law.length ≤ 16 ∧ ps_posC law law.length ≤ 400 ∧ ps_posM law law.length ≤ 400 ∧ ∀ q ∈ law, q.2 = [] ∨ ps_ty q.2 []
theorem ps_pos_succ {α : Type} (f : α → Nat) : ∀ (law : List α) (l : Nat) (q : α), law[l]? = some q → ((law.take (l + 1)).map f).sum = ((law.take l).map f).sum + f q
  | [], l, q, h => by simp at h
  | a :: law, 0, q, h => by
    simp only [List.getElem?_cons_zero, Option.some.injEq] at h
    subst h
    simp
  | a :: law, l + 1, q, h => by
    have h1 : law[l]? = some q := by simpa using h
    have := ps_pos_succ f law l q h1
    simp only [List.take_succ_cons, List.map_cons, List.sum_cons]
    omega
theorem ps_pos_le {α : Type} (f : α → Nat) : ∀ (law : List α) (l : Nat), ((law.take l).map f).sum ≤ ((law.take law.length).map f).sum
  | [], l => by simp
  | a :: law, 0 => by simp
  | a :: law, l + 1 => by
    have := ps_pos_le f law l
    simp only [List.take_succ_cons, List.map_cons, List.sum_cons, List.length_cons]
    omega
