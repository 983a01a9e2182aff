/-! a line of the law as steps (kind, value), and what it comes to -/
def ps_bin (k : Nat) (a b : Int32) : Int32 := match k with
  | 13 => a + b
  | 14 => a - b
  | 15 => a * b
  | 17 => if a < b then 1 else 0
  | 18 => if a = b then 1 else 0
  | 19 => if b < a then 1 else 0
  | 21 => a &&& b
  | _ => a ||| b
def ps_step (env : Nat → Int32) (k v : Nat) (st : List Int32) : List Int32 :=
  if k < 13 then (if k = 0 then nI v else env k) :: st
  else if k = 16 then (match st with
    | a :: r => (a / nI v) :: r
    | [] => [])
  else if k = 20 then (match st with
    | a :: r => (1 - a) :: r
    | [] => [])
  else match st with
    | b :: a :: r => ps_bin k a b :: r
    | _ => []
def ps_run (env : Nat → Int32) : List (Nat × Nat) → List Int32 → List Int32
  | [], st => st
  | q :: L, st => ps_run env L (ps_step env q.1 q.2 st)
/-- the steps stand on a pile of h, and end at 1 -/
def ps_ok : List (Nat × Nat) → Nat → Prop
  | [], h => h = 1
  | q :: L, h =>
    (q.1 ≤ 6 ∧ q.2 ≤ 9999 ∧ h < 30 ∧ ps_ok L (h + 1)) ∨ (q.1 = 16 ∧ 1 ≤ q.2 ∧ q.2 ≤ 9999 ∧ 1 ≤ h ∧ h < 30 ∧ ps_ok L h) ∨ (q.1 = 20 ∧ 1 ≤ h ∧ ps_ok L h) ∨
    ((13 ≤ q.1 ∧ q.1 ≤ 22 ∧ q.1 ≠ 16 ∧ q.1 ≠ 20) ∧ 2 ≤ h ∧ ps_ok L (h - 1))
theorem m1040 (d : Nat) {k : Nat} (h1 : 13 ≤ k) (h2 : k ≤ 22) (h3 : k ≠ 16) (h4 : k ≠ 20) (a b : Int32) (μ : am_Mem) : am_call (d + 1) 1040 [.int (nI k), .int a, .int b] μ = am_ret (some (.int (ps_bin k a b))) μ := by
  rw [e1040, q1040_0]
  rcases (show k = 13 ∨ k = 14 ∨ k = 15 ∨ k = 17 ∨ k = 18 ∨ k = 19 ∨ k = 21 ∨ k = 22 by omega) with rfl | rfl | rfl | rfl | rfl | rfl | rfl | rfl
  · rw [if_pos (by decide), q1040_52]; rfl
  · rw [if_neg (by decide), if_pos (by decide), q1040_56]; rfl
  · rw [if_neg (by decide), if_neg (by decide), if_pos (by decide), q1040_60]; rfl
  · rw [if_neg (by decide), if_neg (by decide), if_neg (by decide), if_neg (by decide), if_pos (by decide), q1040_64, q1040_73, q1040_74, q1040_74]
    by_cases h : a < b
    · rw [if_neg (Int32.not_le.mpr h)]; simp only [ps_bin, if_pos h]; rfl
    · rw [if_pos (Int32.not_lt.mp h)]; simp only [ps_bin, if_neg h]; rfl
  · rw [if_neg (by decide), if_neg (by decide), if_neg (by decide), if_neg (by decide), if_neg (by decide), if_pos (by decide), q1040_75, q1040_84, q1040_85, q1040_85]
    by_cases h : a = b
    · rw [if_pos h]; simp only [ps_bin, if_pos h]; rfl
    · rw [if_neg h]; simp only [ps_bin, if_neg h]; rfl
  · rw [if_neg (by decide), if_neg (by decide), if_neg (by decide), if_neg (by decide), if_neg (by decide), if_neg (by decide), if_pos (by decide), q1040_86, q1040_95, q1040_96, q1040_96]
    by_cases h : b < a
    · rw [if_neg (Int32.not_le.mpr h)]; simp only [ps_bin, if_pos h]; rfl
    · rw [if_pos (Int32.not_lt.mp h)]; simp only [ps_bin, if_neg h]; rfl
  · rw [if_neg (by decide), if_neg (by decide), if_neg (by decide), if_neg (by decide), if_neg (by decide), if_neg (by decide), if_neg (by decide), if_neg (by decide), if_pos (by decide), q1040_97]; rfl
  · rw [if_neg (by decide), if_neg (by decide), if_neg (by decide), if_neg (by decide), if_neg (by decide), if_neg (by decide), if_neg (by decide), if_neg (by decide), if_neg (by decide), q1040_101]; rfl
/-- a pile in a cell, its top first -/
def ps_stk (K : Nat) (st : List Int32) (μ : am_Mem) : Prop := ∀ j x, st[j]? = some x → μ K (st.length - 1 - j) = x
theorem ps_stk.push {K : Nat} {st : List Int32} {μ : am_Mem} (h : ps_stk K st μ) (x : Int32) : ps_stk K (x :: st) (am_up μ K st.length x) := by
  intro j y hj
  cases j with
  | zero =>
    simp only [List.getElem?_cons_zero, Option.some.injEq] at hj
    subst hj
    simp only [List.length_cons, Nat.add_sub_cancel, Nat.sub_zero]
    exact am_upS _ _ _ _
  | succ j =>
    have hj : st[j]? = some y := by simpa using hj
    have hl := (List.getElem?_eq_some_iff.mp hj).1
    have e : (x :: st).length - 1 - (j + 1) = st.length - 1 - j := by simp only [List.length_cons]; omega
    rw [e, am_upI (by omega)]
    exact h j y hj
theorem ps_stk.tail {K : Nat} {x : Int32} {st : List Int32} {μ : am_Mem} (h : ps_stk K (x :: st) μ) : ps_stk K st μ := by
  intro j y hj
  have hl := (List.getElem?_eq_some_iff.mp hj).1
  have := h (j + 1) y (by simpa using hj)
  have e : (x :: st).length - 1 - (j + 1) = st.length - 1 - j := by simp only [List.length_cons]; omega
  rw [e] at this
  exact this
theorem ps_stk.top {K : Nat} {x : Int32} {st : List Int32} {μ : am_Mem} (h : ps_stk K (x :: st) μ) : μ K st.length = x := by
  have := h 0 x rfl
  simpa using this
theorem ps_stk.off {K : Nat} {st : List Int32} {μ μ' : am_Mem} (h : ps_stk K st μ) (e : μ' K = μ K) : ps_stk K st μ' := fun j x hj => by rw [e]; exact h j x hj
/-- the model's steps of a line, from i on -/
def ps_codeM (W : Nat) (L : List (Nat × Nat)) (i : Nat) (μ : am_Mem) : Prop := ∀ j q, L[j]? = some q → μ W (500 + 2 * (i + j)) = nI q.1 ∧ (q.1 = 0 ∨ q.1 = 16 → μ W (500 + 2 * (i + j) + 1) = nI q.2)
theorem ps_codeM.tail {W : Nat} {q : Nat × Nat} {L : List (Nat × Nat)} {i : Nat} {μ : am_Mem} (h : ps_codeM W (q :: L) i μ) : ps_codeM W L (i + 1) μ := fun j q' hj => by
  have := h (j + 1) q' (by simpa using hj)
  have e : i + (j + 1) = i + 1 + j := by omega
  rw [e] at this
  exact this
set_option maxHeartbeats 4000000 in
theorem m1041_5 (d : Nat) (env : Nat → Int32) (x1 : Int32) : ∀ (L : List (Nat × Nat)) (i : Nat) (st : List Int32) (μ : am_Mem) (v5 v6 : Value), ps_codeM 57 L i μ → i + L.length ≤ 410 → (∀ k, 1 ≤ k → k ≤ 6 → μ 65 k = env k) → ps_stk 64 st μ → ps_ok L st.length → st.length ≤ 30 →
    ∃ μ', am_ev (am_call (d + 1)) 1041 5 [.ref 56, .int x1, .int (nI (i + L.length)), .int (nI st.length), .int (nI i), v5, v6] [] μ = am_ret (some (.int ((ps_run env L st).headD 0))) μ' ∧ ps_off [64] μ μ'
  | [], i, st, μ, v5, v6, hc, hi, he, hs, ho, hl => by
    refine ⟨μ, ?_, ps_off.rf⟩
    rw [q1041_5, if_pos (by simp), q1041_166]
    have ho : st.length = 1 := ho
    match st, ho with
    | [x], _ =>
      have := hs.top
      simp only [List.length_nil] at this
      rw [this]
      rfl
  | q :: L, i, st, μ, v5, v6, hc, hi, he, hs, ho, hl => by
    simp only [List.length_cons] at hi
    obtain ⟨c1, c2⟩ := hc 0 q rfl
    simp only [Nat.add_zero] at c1 c2
    obtain ⟨vv, hvv⟩ : ∃ v, μ 57 (500 + 2 * i + 1) = v := ⟨_, rfl⟩
    rw [hvv] at c2
    have hq1 : q.1 ≤ 22 := by rcases ho with ⟨o1, -⟩ | ⟨o1, -⟩ | ⟨o1, -⟩ | ⟨⟨-, o1, -⟩, -⟩ <;> omega
    have hL : i + (q :: L).length = i + 1 + L.length := by simp only [List.length_cons]; omega
    rw [hL, q1041_5]
    simp (disch := omega) only [am_cN, am_leN, pk_mul, nI_add, am_ixN, am_gbI, c1, hvv]
    rw [if_neg (by omega)]
    rcases ho with ⟨o1, o2, o3, o4⟩ | ⟨o1, o2, o3, o4, o5, o6⟩ | ⟨o1, o2, o3⟩ | ⟨⟨o1, o2, o3, o4⟩, o5, o6⟩
    · -- a number or a name
      have key : ∀ x, x = (if q.1 = 0 then nI q.2 else env q.1) → ∃ μ', am_ev (am_call (d + 1)) 1041 72 [.ref 56, .int x1, .int (nI (i + 1 + L.length)), .int (nI st.length), .int (nI i), .int (nI q.1), .int vv] [.int x, .int (nI st.length), .ref 64] μ = am_ret (some (.int ((ps_run env (q :: L) st).headD 0))) μ' ∧ ps_off [64] μ μ' := by
        intro x hx
        have hrun : ps_run env (q :: L) st = ps_run env L (x :: st) := by
          rw [ps_run]; unfold ps_step; rw [if_pos (by omega), hx]
        obtain ⟨μ', h1, h2⟩ := m1041_5 d env x1 L (i + 1) (x :: st) (am_up μ 64 st.length x) (.int (nI q.1)) (.int vv) (fun j q' hj => by rw [am_upK (by omega), am_upK (by omega)]; exact hc.tail j q' hj) (by omega) (fun k k1 k2 => by rw [am_upK (by omega)]; exact he k k1 k2) (hs.push x) o4 (by simp only [List.length_cons]; omega)
        refine ⟨μ', ?_, (ps_off.up ps_off.rf (by simp)).tr h2⟩
        rw [q1041_72, hrun]
        simp (disch := omega) only [am_cN, am_ixN, am_gbI, nI_add]
        rw [q1041_160]
        simp (disch := omega) only [am_cN, nI_add]
        exact h1
      rw [if_neg (by omega)]
      by_cases h0 : q.1 = 0
      · rw [if_pos (by rw [h0]; rfl)]
        exact key _ (by rw [if_pos h0]; exact c2 (Or.inl h0))
      · rw [if_neg (by rw [am_eq0 (by omega)]; exact h0), q1041_65]
        simp (disch := omega) only [am_ixN, am_gbI]
        exact key _ (by rw [if_neg h0]; exact he _ (by omega) o1)
    · -- a part
      have c2 := c2 (Or.inr o1)
      subst c2
      rw [if_pos (by omega), q1041_79, if_pos (by rw [o1]; rfl)]
      match st, hs, o4 with
      | a :: r, hs, _ =>
        have ht := hs.top
        simp only [List.length_cons] at o5 o6 hl ⊢
        have e1 : nI (r.length + 1) - am_c 1 = nI r.length := nI_pred _
        have hrun : ps_run env (q :: L) (a :: r) = ps_run env L ((a / nI q.2) :: r) := by
          rw [ps_run]; unfold ps_step; rw [if_neg (by omega), if_pos o1]
        rw [e1]
        simp (disch := omega) only [am_ixN, am_gbI, am_gb0, ht]
        rw [q1041_160, hrun]
        simp (disch := omega) only [am_cN, nI_add]
        obtain ⟨μ', h1, h2⟩ := m1041_5 d env x1 L (i + 1) ((a / nI q.2) :: r) (am_up μ 64 r.length (a / nI q.2)) (.int (nI q.1)) (.int (nI q.2)) (fun j q' hj => by rw [am_upK (by omega), am_upK (by omega)]; exact hc.tail j q' hj) (by omega) (fun k k1 k2 => by rw [am_upK (by omega)]; exact he k k1 k2) (hs.tail.push _) o6 hl
        exact ⟨μ', h1, (ps_off.up ps_off.rf (by simp)).tr h2⟩
    · -- not
      rw [if_pos (by omega), q1041_79, if_neg (by rw [o1]; decide), q1041_102, if_pos (by rw [o1]; rfl)]
      match st, hs, o2 with
      | a :: r, hs, _ =>
        have ht := hs.top
        simp only [List.length_cons] at o3 hl ⊢
        have e1 : nI (r.length + 1) - am_c 1 = nI r.length := nI_pred _
        have hrun : ps_run env (q :: L) (a :: r) = ps_run env L ((1 - a) :: r) := by
          rw [ps_run]; unfold ps_step; rw [if_neg (by omega), if_neg (by omega), if_pos o1]
        rw [e1]
        simp (disch := omega) only [am_ixN, am_gbI, ht]
        rw [q1041_160, hrun]
        simp (disch := omega) only [am_cN, nI_add]
        obtain ⟨μ', h1, h2⟩ := m1041_5 d env x1 L (i + 1) ((1 - a) :: r) (am_up μ 64 r.length (1 - a)) (.int (nI q.1)) (.int vv) (fun j q' hj => by rw [am_upK (by omega), am_upK (by omega)]; exact hc.tail j q' hj) (by omega) (fun k k1 k2 => by rw [am_upK (by omega)]; exact he k k1 k2) (hs.tail.push _) o3 hl
        exact ⟨μ', h1, (ps_off.up ps_off.rf (by simp)).tr h2⟩
    · -- two
      rw [if_pos (by omega), q1041_79, if_neg (by rw [am_cN, am_eqN (by omega) (by omega)]; exact o3), q1041_102, if_neg (by rw [am_cN, am_eqN (by omega) (by omega)]; exact o4), q1041_130]
      match st, hs, o5 with
      | b :: a :: r, hs, _ =>
        have ht := hs.top
        have ht2 := hs.tail.top
        simp only [List.length_cons] at o6 hl ht ⊢
        have e1 : nI (r.length + 1 + 1) + am_c (-1) = nI (r.length + 1) := pk_m1 _
        have e2 : nI (r.length + 1) - am_c 1 = nI r.length := nI_pred _
        have hrun : ps_run env (q :: L) (b :: a :: r) = ps_run env L (ps_bin q.1 a b :: r) := by
          rw [ps_run]; unfold ps_step; rw [if_neg (by omega), if_neg o3, if_neg o4]
        rw [e1, e2]
        simp (disch := omega) only [am_ixN, am_gbI, ht, ht2, m1040, am_bI_ret]
        rw [q1041_160, hrun]
        simp (disch := omega) only [am_cN, nI_add]
        obtain ⟨μ', h1, h2⟩ := m1041_5 d env x1 L (i + 1) (ps_bin q.1 a b :: r) (am_up μ 64 r.length (ps_bin q.1 a b)) (.int (nI q.1)) (.int vv) (fun j q' hj => by rw [am_upK (by omega), am_upK (by omega)]; exact hc.tail j q' hj) (by omega) (fun k k1 k2 => by rw [am_upK (by omega)]; exact he k k1 k2) (hs.tail.tail.push _) o6 (by simp only [List.length_cons]; omega)
        exact ⟨μ', h1, (ps_off.up ps_off.rf (by simp)).tr h2⟩
