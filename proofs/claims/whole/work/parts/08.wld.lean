/-! The world: the memory's cells on the heap. -/
def am_cv (adr aK aV : Nat → Nat) (vF : Value) (v : Value) : Value := match v with
  | .ref K => .ref (adr K)
  | .retAddr i => .ref (aK i)
  | .float u => .ref (aV u.toNat)
  | .long _ => vF
  | .double _ => .null
  | v => v
def am_tys (cA : Nat → ClassId) : List (ClassId × FieldType) := [(cA 0, .int), (cA 1, .byte), (cA 2, .boolean)]
def am_fv (adr : Nat → Nat) (f : Nat → Int32) (k c : Nat) : Value := match c with
  | 0 => .int (f k)
  | 1 => .int (f k)
  | j + 2 => .ref (adr j)
def am_en (adr : Nat → Nat) (cA : Nat → ClassId) (μ : am_Mem) (K : Nat) (q : (Nat × List Nat) ⊕ (Nat × Nat)) : va_E := match q with
  | .inl q => .inr (q.1, q.2.mapIdx (am_fv adr (μ K)))
  | .inr q => .inl (cA q.1, q.2, .inl (μ K))
def am_ws (adr : Nat → Nat) (cA : Nat → ClassId) (μ : am_Mem) : va_W := am_L.mapIdx (fun K q => (adr K, am_en adr cA μ K q))
theorem am_ws_at {adr : Nat → Nat} {cA : Nat → ClassId} {μ : am_Mem} {K : Nat} {q : (Nat × List Nat) ⊕ (Nat × Nat)} (h : am_L[K]? = some q) : (am_ws adr cA μ)[K]? = some (adr K, am_en adr cA μ K q) := by
  simp [am_ws, h]
theorem am_up_at (μ : am_Mem) (K i : Nat) (x : Int32) : am_up μ K i x K = upd (μ K) i x := by
  simp only [am_up, if_pos]
  rfl
theorem am_up_ne {μ : am_Mem} {K K' i : Nat} {x : Int32} (h : K' ≠ K) : am_up μ K i x K' = μ K' := by
  simp only [am_up, if_neg h]
/-- an array's cell changes -/
theorem am_ws_arr {adr : Nat → Nat} {cA : Nat → ClassId} {μ μ' : am_Mem} {K : Nat} {q : Nat × Nat} (h : am_L[K]? = some (.inr q)) (hne : ∀ K', K' ≠ K → μ' K' = μ K') : am_ws adr cA μ' = (am_ws adr cA μ).set K (adr K, .inl (cA q.1, q.2, .inl (μ' K))) := by
  apply List.ext_getElem?
  intro j
  rw [List.getElem?_set]
  have hK : K < (am_ws adr cA μ).length := by
    rw [am_ws, List.length_mapIdx]
    exact (List.getElem?_eq_some_iff.mp h).1
  by_cases hj : K = j
  · subst hj
    rw [if_pos rfl, if_pos hK, am_ws_at h]
    rfl
  · rw [if_neg hj]
    simp only [am_ws, List.getElem?_mapIdx]
    cases hl : am_L[j]? with
    | none => rfl
    | some z =>
      have e := hne j (fun e => hj e.symm)
      simp only [Option.map_some]
      cases z <;> simp only [am_en, e]
/-- an object's field changes -/
theorem am_ws_fld {adr : Nat → Nat} {cA : Nat → ClassId} {μ : am_Mem} {K ci k : Nat} {fs : List Nat} {x : Int32} (h : am_L[K]? = some (.inl (ci, fs))) (hf : fs[k]? = some 0 ∨ fs[k]? = some 1) : am_ws adr cA (am_up μ K k x) = (am_ws adr cA μ).set K (adr K, .inr (ci, (fs.mapIdx (am_fv adr (μ K))).set k (.int x))) := by
  apply List.ext_getElem?
  intro j
  rw [List.getElem?_set]
  have hK : K < (am_ws adr cA μ).length := by
    rw [am_ws, List.length_mapIdx]
    exact (List.getElem?_eq_some_iff.mp h).1
  by_cases hj : K = j
  · subst hj
    rw [if_pos rfl, if_pos hK, am_ws_at h]
    have e : fs.mapIdx (am_fv adr (am_up μ K k x K)) = (fs.mapIdx (am_fv adr (μ K))).set k (.int x) := by
      apply List.ext_getElem?
      intro i
      rw [List.getElem?_set, am_up_at]
      simp only [List.getElem?_mapIdx, List.length_mapIdx]
      by_cases hi : k = i
      · subst hi
        rw [if_pos rfl]
        rcases hf with hf | hf
        · rw [hf, if_pos (List.getElem?_eq_some_iff.mp hf).1]
          simp [am_fv, upd]
        · rw [hf, if_pos (List.getElem?_eq_some_iff.mp hf).1]
          simp [am_fv, upd]
      · rw [if_neg hi]
        cases fs[i]? with
        | none => rfl
        | some z =>
          simp only [Option.map_some]
          match z with
          | 0 => simp [am_fv, upd, Ne.symm hi]
          | 1 => simp [am_fv, upd, Ne.symm hi]
          | j + 2 => rfl
    show some (adr K, (.inr (ci, fs.mapIdx (am_fv adr (am_up μ K k x K))) : va_E)) = _
    rw [e]
  · rw [if_neg hj]
    simp only [am_ws, List.getElem?_mapIdx]
    cases hl : am_L[j]? with
    | none => rfl
    | some z =>
      have e := am_up_ne (μ := μ) (i := k) (x := x) (fun e => hj e.symm : j ≠ K)
      simp only [Option.map_some]
      cases z <;> simp only [am_en, e]
theorem am_ws_D {adr : Nat → Nat} {cA : Nat → ClassId} {A : Nat → Prop} (μ : am_Mem) (hi : ∀ i j : Nat, i < 73 → j < 73 → adr i = adr j → i = j) (hA : ∀ k : Nat, k < 73 → A (adr k)) : va_D A (am_ws adr cA μ) := by
  have at' : ∀ (i : Nat) (p : Nat × va_E), (am_ws adr cA μ)[i]? = some p → i < 73 ∧ p.1 = adr i := by
    intro i p h
    simp only [am_ws, List.getElem?_mapIdx] at h
    cases hl : am_L[i]? with
    | none => rw [hl] at h; cases h
    | some z =>
      rw [hl] at h
      have h1 := (List.getElem?_eq_some_iff.mp hl).1
      cases h
      exact ⟨h1, rfl⟩
  refine ⟨fun i j p q hp hq e => ?_, fun k q hq => ?_⟩
  · obtain ⟨a1, a2⟩ := at' i p hp
    obtain ⟨b1, b2⟩ := at' j q hq
    exact hi i j a1 b1 (by rw [← a2, ← b2]; exact e)
  · obtain ⟨b1, b2⟩ := at' k q hq
    rw [b2]
    exact hA k b1
