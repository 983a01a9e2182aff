/-! the memory behind the constructors, and that the invariants hold there -/
def co_mem (σ : List co_C) (K : Nat) : Nat → Int32 := match σ[K]? with
  | some (.inr q) => co_f q.2.2
  | some (.inl q) => fun i => match q.2[i]? with
    | some (.int x) => x
    | _ => 0
  | none => fun _ => 0
def co_sf (k : Nat) (v : Value) : Bool := match k with
  | 0 => match v with
    | .int _ => true
    | _ => false
  | 1 => match v with
    | .int _ => true
    | _ => false
  | j + 2 => match v with
    | .ref K => Nat.beq K j
    | _ => false
def co_so (a : Option Nat) (v : Option Value) : Bool := match a with
  | some a => match v with
    | some v => co_sf a v
    | none => false
  | none => false
def co_sm (q : (Nat × List Nat) ⊕ (Nat × Nat)) (z : co_C) : Bool := match q with
  | .inl q => match z with
    | .inl z => Nat.beq q.1 z.1 && (Nat.beq q.2.length z.2.length && (List.range q.2.length).all (fun k => co_so q.2[k]? z.2[k]?))
    | .inr _ => false
  | .inr q => match z with
    | .inl _ => false
    | .inr z => Nat.beq q.1 z.1 && Nat.beq q.2 z.2.1
theorem co_sm_en {σ : List co_C} {K : Nat} {q : (Nat × List Nat) ⊕ (Nat × Nat)} {z : co_C} (hz : σ[K]? = some z) (h : co_sm q z = true) (ad : Nat → Nat) (cA : Nat → ClassId) {μ : am_Mem} (hμ : μ K = co_mem σ K) : am_en ad cA μ K q = co_e ad cA z := by
  cases q with
  | inl q =>
    cases z with
    | inr z => cases h
    | inl z =>
      obtain ⟨h1, h2⟩ := Bool.and_eq_true_iff.mp h
      obtain ⟨h2, h3⟩ := Bool.and_eq_true_iff.mp h2
      have h1 := Nat.eq_of_beq_eq_true h1
      have h2 := Nat.eq_of_beq_eq_true h2
      have e : q.2.mapIdx (am_fv ad (μ K)) = z.2.map (co_v ad) := by
        apply List.ext_getElem?
        intro k
        rw [List.getElem?_mapIdx, List.getElem?_map]
        by_cases hk : k < q.2.length
        · have h4 := List.all_eq_true.mp h3 k (List.mem_range.mpr hk)
          cases ha : q.2[k]? with
          | none => rw [ha] at h4; cases h4
          | some a =>
            cases hv : z.2[k]? with
            | none => rw [ha, hv] at h4; cases h4
            | some v =>
              rw [ha, hv] at h4
              have h4 : co_sf a v = true := h4
              have hm : ∀ x, v = .int x → μ K k = x := by
                intro x hx
                rw [hμ]
                simp only [co_mem, hz, hv, hx]
              simp only [Option.map_some]
              match a, h4 with
              | 0, h4 =>
                cases v with
                | int x => show some (Value.int (μ K k)) = some (.int x); rw [hm x rfl]
                | _ => cases h4
              | 1, h4 =>
                cases v with
                | int x => show some (Value.int (μ K k)) = some (.int x); rw [hm x rfl]
                | _ => cases h4
              | j + 2, h4 =>
                cases v with
                | ref K' =>
                  have := Nat.eq_of_beq_eq_true h4
                  subst this
                  rfl
                | _ => cases h4
        · rw [List.getElem?_eq_none (by omega), List.getElem?_eq_none (by omega)]
          rfl
      show Sum.inr (q.1, q.2.mapIdx (am_fv ad (μ K))) = Sum.inr (z.1, z.2.map (co_v ad))
      rw [e, h1]
  | inr q =>
    cases z with
    | inl z => cases h
    | inr z =>
      obtain ⟨h1, h2⟩ := Bool.and_eq_true_iff.mp h
      have h1 := Nat.eq_of_beq_eq_true h1
      have h2 := Nat.eq_of_beq_eq_true h2
      have e : μ K = co_f z.2.2 := by
        rw [hμ]
        simp only [co_mem, hz]
      show Sum.inl (cA q.1, q.2, Sum.inl (μ K)) = Sum.inl (cA z.1, z.2.1, Sum.inl (co_f z.2.2))
      rw [e, h1, h2]
def co_sw (a : Option ((Nat × List Nat) ⊕ (Nat × Nat))) (z : Option co_C) : Bool := match a with
  | some q => match z with
    | some z => co_sm q z
    | none => false
  | none => false
theorem co_all : (List.range 73).all (fun K => co_sw am_L[K]? co_s2[K]?) = true := by decide +kernel
theorem co_lts : co_s2.all (co_lC 73) = true := by decide +kernel
theorem co_world {ad ad' : Nat → Nat} {cA : Nat → ClassId} {μ : am_Mem} (hμ : ∀ K, K < 73 → μ K = co_mem co_s2 K) (had : ∀ j, j < 73 → ad j = ad' j) : am_ws ad cA μ = co_ws ad' cA co_s2 := by
  apply List.ext_getElem?
  intro K
  by_cases hK : K < 73
  · have h := List.all_eq_true.mp co_all K (List.mem_range.mpr hK)
    cases ha : am_L[K]? with
    | none => rw [ha] at h; cases h
    | some q =>
      cases hz : co_s2[K]? with
      | none => rw [ha, hz] at h; cases h
      | some z =>
        rw [ha, hz] at h
        rw [am_ws_at ha, co_ws_at hz, co_sm_en hz h ad cA (hμ K hK), had K hK, co_e_cong had (List.all_eq_true.mp co_lts z (List.mem_of_getElem? hz))]
  · rw [List.getElem?_eq_none, List.getElem?_eq_none]
    · rw [co_ws, List.length_mapIdx, co_n2]; omega
    · rw [am_ws, List.length_mapIdx, am_L_len]; omega
def co_S0 : ps_S := (0, fun _ => 0, 0, 1, 0, 0, 0, 0, fun _ => 0, fun _ => 0, fun _ _ => 0, 0, fun _ _ => 0, [])
def co_O0 : ps_O := (co_S0, 0, fun _ => 0, 0, -1, [], none)
theorem co_vals : [(1, 4, 0), (1, 6, 0), (1, 1, 1), (1, 2, 0), (1, 3, 0), (1, 0, 0), (1, 7, 0), (1, 11, 0), (7, 0, 0), (0, 4, 0), (26, 5, 0), (26, 6, -1), (37, 4, 0), (37, 3, 0), (0, 2, 0), (48, 9, 0), (57, 0, 0), (57, 2, 1), (57, 3, 0), (57, 4, 0), (57, 6, 0), (57, 1, 0), (57, 5, 0), (57, 435, 0), (56, 13, 0), (56, 20, 0), (56, 22, -1), (56, 3, 0), (56, 4, 0)].all (fun q : Nat × Nat × Int32 => decide (co_mem co_s2 q.1 q.2.1 = q.2.2)) = true := by decide +kernel
theorem co_val {K i : Nat} {x : Int32} (h : (K, i, x) ∈ [(1, 4, 0), (1, 6, 0), (1, 1, 1), (1, 2, 0), (1, 3, 0), (1, 0, 0), (1, 7, 0), (1, 11, 0), (7, 0, 0), (0, 4, 0), (26, 5, 0), (26, 6, -1), (37, 4, 0), (37, 3, 0), (0, 2, 0), (48, 9, 0), (57, 0, 0), (57, 2, 1), (57, 3, 0), (57, 4, 0), (57, 6, 0), (57, 1, 0), (57, 5, 0), (57, 435, 0), (56, 13, 0), (56, 20, 0), (56, 22, -1), (56, 3, 0), (56, 4, (0 : Int32))]) : co_mem co_s2 K i = x := of_decide_eq_true (List.all_eq_true.mp co_vals (K, i, x) h)
theorem co_55 : co_s2[55]? = some (.inr (0, 4096, [])) := by decide +kernel
theorem co_Ow : ps_Ow co_O0 := by
  refine ⟨⟨by decide, fun k hk => absurd hk (Nat.not_lt_zero k), by decide, by decide, by decide, by decide, by decide, fun e he => absurd he (Nat.not_lt_zero e), by decide, by decide⟩, ⟨by decide, by decide, by decide, fun q hq => absurd hq List.not_mem_nil⟩, by decide, fun i hi => absurd hi (Nat.not_lt_zero i), by decide, by decide, fun j p hp => ?_, fun S' h => by cases h⟩
  exact absurd (show ([] : List ps_P)[j]? = some p from hp) (by simp)
theorem co_Ic {μ : am_Mem} (hμ : ∀ K, K < 73 → μ K = co_mem co_s2 K) : ps_Ic 0 co_O0 μ := by
  refine ⟨⟨?_, fun k hk => absurd hk (Nat.not_lt_zero k), ?_, ?_, ?_, ?_, ?_, ?_, fun e he => absurd he (Nat.not_lt_zero e), fun e he => absurd he (Nat.not_lt_zero e), fun e i he => absurd he (Nat.not_lt_zero e), ?_, fun i f hi => absurd hi (Nat.not_lt_zero i)⟩, ⟨?_, fun l q hq => ?_⟩, ⟨?_, fun i hi => absurd hi (Nat.not_lt_zero i)⟩, ⟨?_, ?_⟩, ⟨?_, 0, by decide, ?_, fun j p hp => ?_⟩, fun _ => ?_, fun S' h => (by cases h), 0, by decide, ?_, fun i hi => ?_⟩
  all_goals try (rw [hμ _ (by decide)]; exact co_val (by decide))
  · exact absurd (show ([] : List (Bool × List (Nat × Nat)))[l]? = some q from hq) (by simp)
  · exact absurd (show ([] : List ps_P)[j]? = some p from hp) (by simp)
  · rw [hμ _ (by decide)]
    simp only [co_mem, co_55]
    show am_ix 0 / 1048576 ≤ 0
    decide
theorem co_Im {μ : am_Mem} (hμ : ∀ K, K < 73 → μ K = co_mem co_s2 K) : ps_Im co_O0 μ := by
  refine ⟨⟨?_, fun k hk => absurd hk (Nat.not_lt_zero k), fun k hk => absurd hk (Nat.not_lt_zero k), ?_, ?_, ?_, ?_, ?_, fun e he => absurd he (Nat.not_lt_zero e), fun e he => absurd he (Nat.not_lt_zero e), fun e i he => absurd he (Nat.not_lt_zero e), ?_, fun i f hi => absurd hi (Nat.not_lt_zero i)⟩, ⟨?_, fun l q hq => ?_⟩, ⟨?_, fun i hi => absurd hi (Nat.not_lt_zero i)⟩, ⟨?_, ?_⟩, ⟨?_, fun j p hp => ?_⟩, fun _ => ?_, fun S' h => (by cases h)⟩
  all_goals try (rw [hμ _ (by decide)]; exact co_val (by decide))
  · exact absurd (show ([] : List (Bool × List (Nat × Nat)))[l]? = some q from hq) (by simp)
  · exact absurd (show ([] : List ps_P)[j]? = some p from hp) (by simp)
