/-! the component's lines -/
def ps_opc (k : Nat) : Nat := match k with
  | 13 => 16
  | 14 => 17
  | 15 => 18
  | 17 => 22
  | 18 => 23
  | 19 => 24
  | 20 => 8
  | 21 => 7
  | 22 => 6
  | k => k + 8
def ps_enc (q : Nat × Nat) : List Nat := if q.1 = 0 then [q.2] else if q.1 = 16 then [q.2, 10019] else [10000 + ps_opc q.1]
def ps_encs (L : List (Nat × Nat)) : List Nat := L.flatMap ps_enc
def ps_codeC (K : Nat) (cs : List Nat) (i : Nat) (μ : am_Mem) : Prop := ∀ j c, cs[j]? = some c → μ K (i + j) = nI c
theorem ps_codeC.tail {K : Nat} {a : Nat} {cs : List Nat} {i : Nat} {μ : am_Mem} (h : ps_codeC K (a :: cs) i μ) : ps_codeC K cs (i + 1) μ := fun j c hj => by
  have := h (j + 1) c (by simpa using hj)
  have e : i + (j + 1) = i + 1 + j := by omega
  rw [e] at this
  exact this
theorem ps_codeC.off {K : Nat} {cs : List Nat} {i : Nat} {μ μ' : am_Mem} (h : ps_codeC K cs i μ) (e : μ' K = μ K) : ps_codeC K cs i μ' := fun j c hj => by rw [e]; exact h j c hj
theorem ps_bin_opc {k : Nat} (h1 : 13 ≤ k) (h2 : k ≤ 22) (h3 : k ≠ 16) (h4 : k ≠ 20) (a b : Int32) : ps_binC (ps_opc k) a b = ps_bin k a b := by
  rcases (show k = 13 ∨ k = 14 ∨ k = 15 ∨ k = 17 ∨ k = 18 ∨ k = 19 ∨ k = 21 ∨ k = 22 by omega) with rfl | rfl | rfl | rfl | rfl | rfl | rfl | rfl <;> rfl
theorem c103_s (d : Nat) {μ μ1 : am_Mem} {line h h' i E c : Nat} (hl : line < 16) (hE : μ 9 (line + 1) = nI E) (hE4 : E ≤ 400) (hi : i < E) (hc : μ 10 i = nI c) (hw : am_call (d + 1) 104 [.ref 7, .int (nI c), .int (nI h)] μ = am_ret (some (.int (nI h'))) μ1) :
    am_ev (am_call (d + 1)) 103 19 [.ref 7, .int (nI line), .int (nI h), .int (nI i)] [] μ = am_ev (am_call (d + 1)) 103 19 [.ref 7, .int (nI line), .int (nI h'), .int (nI (i + 1))] [] μ1 := by
  rw [q103_19]
  simp (disch := omega) only [am_cN, nI_add, am_ixN, am_gbI, hE, am_leN, hc, hw, am_bI_ret]
  rw [if_neg (by omega)]
set_option maxHeartbeats 4000000 in
theorem c103_19 (d : Nat) (env : Nat → Int32) {line E : Nat} (hl : line < 16) (hE4 : E ≤ 400) : ∀ (L : List (Nat × Nat)) (i : Nat) (st : List Int32) (μ : am_Mem), ps_codeC 10 (ps_encs L) i μ → i + (ps_encs L).length = E → μ 9 (line + 1) = nI E → (∀ k, 1 ≤ k → k ≤ 6 → μ 11 (k - 1) = env k) → ps_stk 12 st μ → ps_ok L st.length → st.length ≤ 30 →
    ∃ μ', am_ev (am_call (d + 1)) 103 19 [.ref 7, .int (nI line), .int (nI st.length), .int (nI i)] [] μ = am_ev (am_call (d + 1)) 103 49 [.ref 7, .int (nI line), .int (nI 1), .int (nI E)] [] μ' ∧ ps_off [12] μ μ' ∧ μ' 12 0 = (ps_run env L st).headD 0
  | [], i, st, μ, hc, hi, hE, he, hs, ho, hln => by
    have hi : i = E := by simpa [ps_encs] using hi
    have ho : st.length = 1 := ho
    refine ⟨μ, ?_, ps_off.rf, ?_⟩
    · rw [q103_19, ho, hi]
      simp (disch := omega) only [am_cN, nI_add, am_ixN, am_gbI, hE, am_leN, Nat.le_refl, if_true]
    · match st, ho with
      | [x], _ =>
        have := hs.top
        simp only [List.length_nil] at this
        rw [this]
        rfl
  | q :: L, i, st, μ, hc, hi, hE, he, hs, ho, hln => by
    have hcs : ps_encs (q :: L) = ps_enc q ++ ps_encs L := rfl
    rw [hcs] at hc hi
    rw [List.length_append] at hi
    have go : ∀ (μ1 : am_Mem) (i1 : Nat) (st1 : List Int32), am_ev (am_call (d + 1)) 103 19 [.ref 7, .int (nI line), .int (nI st.length), .int (nI i)] [] μ = am_ev (am_call (d + 1)) 103 19 [.ref 7, .int (nI line), .int (nI st1.length), .int (nI i1)] [] μ1 → ps_off [12] μ μ1 → i1 + (ps_encs L).length = E → ps_codeC 10 (ps_encs L) i1 μ → ps_stk 12 st1 μ1 → ps_ok L st1.length → st1.length ≤ 30 → ps_run env (q :: L) st = ps_run env L st1 →
        ∃ μ', am_ev (am_call (d + 1)) 103 19 [.ref 7, .int (nI line), .int (nI st.length), .int (nI i)] [] μ = am_ev (am_call (d + 1)) 103 49 [.ref 7, .int (nI line), .int (nI 1), .int (nI E)] [] μ' ∧ ps_off [12] μ μ' ∧ μ' 12 0 = (ps_run env (q :: L) st).headD 0 := by
      intro μ1 i1 st1 g1 g2 g3 g4 g5 g6 g7 g8
      obtain ⟨μ', h1, h2, h3⟩ := c103_19 d env hl hE4 L i1 st1 μ1 (g4.off (g2 10 (by simp))) g3 (by rw [g2 9 (by simp)]; exact hE) (fun k k1 k2 => by rw [g2 11 (by simp)]; exact he k k1 k2) g5 g6 g7
      exact ⟨μ', g1.trans h1, g2.tr h2, by rw [h3, g8]⟩
    rcases ho with ⟨o1, o2, o3, o4⟩ | ⟨o1, o2, o3, o4, o5, o6⟩ | ⟨o1, o2, o3⟩ | ⟨⟨o1, o2, o3, o4⟩, o5, o6⟩
    · -- a number or a name
      by_cases h0 : q.1 = 0
      · have hen : ps_enc q = [q.2] := by rw [ps_enc, if_pos h0]
        rw [hen] at hc hi
        simp only [List.length_cons, List.length_nil] at hi
        refine go (am_up μ 12 st.length (nI q.2)) (i + 1) (nI q.2 :: st) (c103_s d hl hE hE4 (by omega) (hc 0 q.2 rfl) (c104n d o2 (by omega) μ)) (ps_off.up ps_off.rf (by simp)) (by omega) hc.tail (hs.push _) o4 (by simp only [List.length_cons]; omega) ?_
        rw [ps_run]; unfold ps_step; rw [if_pos (by omega), if_pos h0]
      · have hop : ps_opc q.1 = q.1 + 8 := by
          rcases (show q.1 = 1 ∨ q.1 = 2 ∨ q.1 = 3 ∨ q.1 = 4 ∨ q.1 = 5 ∨ q.1 = 6 by omega) with h | h | h | h | h | h <;> rw [h] <;> rfl
        have hen : ps_enc q = [10000 + (q.1 + 8)] := by rw [ps_enc, if_neg h0, if_neg (by omega), hop]
        rw [hen] at hc hi
        simp only [List.length_cons, List.length_nil] at hi
        have hv := he q.1 (by omega) o1
        have hw := c104v d (j := q.1 + 8) (h := st.length) (by omega) (by omega) (by omega) μ
        rw [show q.1 + 8 - 9 = q.1 - 1 by omega, hv] at hw
        refine go (am_up μ 12 st.length (env q.1)) (i + 1) (env q.1 :: st) (c103_s d hl hE hE4 (by omega) (hc 0 _ rfl) hw) (ps_off.up ps_off.rf (by simp)) (by omega) hc.tail (hs.push _) o4 (by simp only [List.length_cons]; omega) ?_
        rw [ps_run]; unfold ps_step; rw [if_pos (by omega), if_neg h0]
    · -- a part
      have hen : ps_enc q = [q.2, 10019] := by rw [ps_enc, if_neg (by omega), if_pos o1]
      rw [hen] at hc hi
      simp only [List.length_cons, List.length_nil] at hi
      match st, hs, o4, o5, o6, hln, go with
      | a :: r, hs, _, o5, o6, hln, go =>
        simp only [List.length_cons] at o5 o6 hln
        have s1 := c103_s d (h := r.length + 1) (h' := r.length + 2) hl hE hE4 (by omega) (hc 0 q.2 rfl) (c104n d (h := r.length + 1) o3 (by omega) μ)
        have n19 : ¬ nI q.2 = 0 := nI_ne0 (by omega) (by omega)
        have hw := c104b d (j := 19) (h := r.length) (μ := am_up μ 12 (r.length + 1) (nI q.2)) (a := a) (b := nI q.2) (by omega) (by omega) (by rw [am_upI (by omega)]; exact hs.top) (am_upS _ _ _ _) (fun _ => n19)
        have s2 := c103_s d (line := line) (h := r.length + 2) (h' := r.length + 1) (i := i + 1) (c := 10019) (μ := am_up μ 12 (r.length + 1) (nI q.2)) hl (by rw [am_upK (by omega)]; exact hE) hE4 (by omega) (by rw [am_upK (by omega)]; exact hc.tail 0 10019 rfl) hw
        refine go (am_up (am_up μ 12 (r.length + 1) (nI q.2)) 12 r.length (ps_binC 19 a (nI q.2))) (i + 2) ((a / nI q.2) :: r) (s1.trans s2) (ps_off.up (ps_off.up ps_off.rf (by simp)) (by simp)) (by omega) hc.tail.tail ?_ o6 hln ?_
        · refine ps_stk.push ?_ _
          intro j x hj
          have hjl := (List.getElem?_eq_some_iff.mp hj).1
          rw [am_upI (by omega)]
          exact hs.tail j x hj
        · rw [ps_run]; unfold ps_step; rw [if_neg (by omega), if_pos o1]
    · -- not
      have hen : ps_enc q = [10008] := by rw [ps_enc, if_neg (by omega), if_neg (by omega), o1]; rfl
      rw [hen] at hc hi
      simp only [List.length_cons, List.length_nil] at hi
      match st, hs, o2, o3, hln, go with
      | a :: r, hs, _, o3, hln, go =>
        simp only [List.length_cons] at o3 hln
        refine go (am_up μ 12 r.length (1 - a)) (i + 1) ((1 - a) :: r) (c103_s d hl hE hE4 (by omega) (hc 0 _ rfl) (c104t d (by omega) hs.top)) (ps_off.up ps_off.rf (by simp)) (by omega) hc.tail (hs.tail.push _) o3 hln ?_
        rw [ps_run]; unfold ps_step; rw [if_neg (by omega), if_neg (by omega), if_pos o1]
    · -- two
      have hen : ps_enc q = [10000 + ps_opc q.1] := by rw [ps_enc, if_neg (by omega), if_neg o3]
      rw [hen] at hc hi
      simp only [List.length_cons, List.length_nil] at hi
      have hop : ps_opc q.1 = 16 ∨ ps_opc q.1 = 17 ∨ ps_opc q.1 = 18 ∨ ps_opc q.1 = 19 ∨ ps_opc q.1 = 22 ∨ ps_opc q.1 = 23 ∨ ps_opc q.1 = 24 ∨ ps_opc q.1 = 7 ∨ ps_opc q.1 = 6 := by
        rcases (show q.1 = 13 ∨ q.1 = 14 ∨ q.1 = 15 ∨ q.1 = 17 ∨ q.1 = 18 ∨ q.1 = 19 ∨ q.1 = 21 ∨ q.1 = 22 by omega) with h | h | h | h | h | h | h | h <;> rw [h] <;> decide
      have hop19 : ps_opc q.1 ≠ 19 := by
        rcases (show q.1 = 13 ∨ q.1 = 14 ∨ q.1 = 15 ∨ q.1 = 17 ∨ q.1 = 18 ∨ q.1 = 19 ∨ q.1 = 21 ∨ q.1 = 22 by omega) with h | h | h | h | h | h | h | h <;> rw [h] <;> decide
      match st, hs, o5, o6, hln, go with
      | b :: a :: r, hs, _, o6, hln, go =>
        simp only [List.length_cons] at o6 hln
        refine go (am_up μ 12 r.length (ps_binC (ps_opc q.1) a b)) (i + 1) (ps_binC (ps_opc q.1) a b :: r) (c103_s d hl hE hE4 (by omega) (hc 0 _ rfl) (c104b d hop (by omega) hs.tail.top hs.top (fun h => absurd h hop19))) (ps_off.up ps_off.rf (by simp)) (by omega) hc.tail (hs.tail.tail.push _) o6 (by simp only [List.length_cons]; omega) ?_
        rw [ps_run]; unfold ps_step; rw [if_neg (by omega), if_neg o3, if_neg o4, ps_bin_opc o1 o2 o3 o4]
