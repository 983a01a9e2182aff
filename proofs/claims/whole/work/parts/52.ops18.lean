variable {bG : Nat}
/-! image -/
theorem ps_posC_mono {f : Bool × List (Nat × Nat) → Nat} : ∀ (law : List (Bool × List (Nat × Nat))) (l : Nat), ((law.take l).map f).sum ≤ (law.map f).sum
  | [], l => by simp
  | a :: law, 0 => by simp
  | a :: law, l + 1 => by
    have := ps_posC_mono (f := f) law l
    simp only [List.take_succ_cons, List.map_cons, List.sum_cons]
    omega
theorem ps_pos_len {f : Bool × List (Nat × Nat) → Nat} {law : List (Bool × List (Nat × Nat))} {l : Nat} {q : Bool × List (Nat × Nat)} (h : law[l]? = some q) : l < law.length ∧ ((law.take l).map f).sum + f q ≤ ((law.take law.length).map f).sum := by
  have hl : l < law.length := by
    rcases Nat.lt_or_ge l law.length with z | z
    · exact z
    · rw [List.getElem?_eq_none z] at h
      exact absurd h (by simp)
  refine ⟨hl, ?_⟩
  rw [← ps_pos_succ f law l q h, List.take_length]
  exact ps_posC_mono law (l + 1)
/-- the law copied from the cells at F to those at T -/
def ps_cpL (F T : Nat) (μ μ' : am_Mem) : Prop := μ' T 0 = μ F 0 ∧ (∀ i, i < 16 → μ' (T + 1) i = μ (F + 1) i) ∧ (∀ i, i < 17 → μ' (T + 2) i = μ (F + 2) i) ∧ (∀ i, i < 400 → μ' (T + 3) i = μ (F + 3) i) ∧ ∀ K, K < T ∨ T + 3 < K → μ' K = μ K
theorem ps_Lc.cp {F T : Nat} {law : List (Bool × List (Nat × Nat))} {μ μ' : am_Mem} (h : ps_Lc F law μ) (hw : ps_Lw law) (hc : ps_cpL F T μ μ') : ps_Lc T law μ' := by
  obtain ⟨c0, c1, c2, c3, c4⟩ := hc
  refine ⟨by rw [c0]; exact h.1, fun l q hq => ?_⟩
  obtain ⟨a1, a2, a3, a4⟩ := h.2 l q hq
  have hl := ps_pos_len (f := fun q => (ps_encs q.2).length) hq
  have h16 : law.length ≤ 16 := hw.1
  have h400 : ps_posC law law.length ≤ 400 := hw.2.1
  have hl2 : ps_posC law l + (ps_encs q.2).length ≤ ps_posC law law.length := hl.2
  refine ⟨by rw [c1 l (by omega)]; exact a1, by rw [c2 l (by omega)]; exact a2, by rw [c2 (l + 1) (by omega)]; exact a3, fun j c hj => ?_⟩
  have hjl : j < (ps_encs q.2).length := by
    rcases Nat.lt_or_ge j (ps_encs q.2).length with z | z
    · exact z
    · rw [List.getElem?_eq_none z] at hj
      exact absurd hj (by simp)
  rw [c3 _ (by omega)]
  exact a4 j c hj
theorem c101a (d : Nat) (μ : am_Mem) : ∃ μ', am_call (d + 2) 101 [.ref 19, .ref 7] μ = am_ret none μ' ∧ ps_cpL 7 19 μ μ' := by
  rw [e101a, q101a_0, show ∀ m, am_call (d + 1) 2004 [.ref 8, .int (am_c 0), .ref 20, .int (am_c 0), .int 16] m = am_ret none (am_cp m 8 20 0 0 16) from fun _ => rfl, am_bV_ret, show ∀ m, am_call (d + 1) 2004 [.ref 9, .int (am_c 0), .ref 21, .int (am_c 0), .int 17] m = am_ret none (am_cp m 9 21 0 0 17) from fun _ => rfl, am_bV_ret, show ∀ m, am_call (d + 1) 2004 [.ref 10, .int (am_c 0), .ref 22, .int (am_c 0), .int 400] m = am_ret none (am_cp m 10 22 0 0 400) from fun _ => rfl, am_bV_ret]
  refine ⟨_, rfl, ?_, fun i hi => ?_, fun i hi => ?_, fun i hi => ?_, fun K hK => ?_⟩
  · rw [am_cpK (by omega), am_cpK (by omega), am_cpK (by omega), am_upS]
  · rw [am_cpK (by omega), am_cpK (by omega), am_cpS, pk_cpy_in (by omega) (by omega), am_upK (by omega), Nat.zero_add, Nat.sub_zero]
  · rw [am_cpK (by omega), am_cpS, pk_cpy_in (by omega) (by omega), am_cpK (by omega), am_upK (by omega), Nat.zero_add, Nat.sub_zero]
  · rw [am_cpS, pk_cpy_in (by omega) (by omega), am_cpK (by omega), am_cpK (by omega), am_upK (by omega), Nat.zero_add, Nat.sub_zero]
  · rw [am_cpK (by omega), am_cpK (by omega), am_cpK (by omega), am_up_ne (by omega)]
theorem c101b (d : Nat) (μ : am_Mem) : ∃ μ', am_call (d + 2) 101 [.ref 7, .ref 19] μ = am_ret none μ' ∧ ps_cpL 19 7 μ μ' := by
  rw [e101b, q101b_0, show ∀ m, am_call (d + 1) 2004 [.ref 20, .int (am_c 0), .ref 8, .int (am_c 0), .int 16] m = am_ret none (am_cp m 20 8 0 0 16) from fun _ => rfl, am_bV_ret, show ∀ m, am_call (d + 1) 2004 [.ref 21, .int (am_c 0), .ref 9, .int (am_c 0), .int 17] m = am_ret none (am_cp m 21 9 0 0 17) from fun _ => rfl, am_bV_ret, show ∀ m, am_call (d + 1) 2004 [.ref 22, .int (am_c 0), .ref 10, .int (am_c 0), .int 400] m = am_ret none (am_cp m 22 10 0 0 400) from fun _ => rfl, am_bV_ret]
  refine ⟨_, rfl, ?_, fun i hi => ?_, fun i hi => ?_, fun i hi => ?_, fun K hK => ?_⟩
  · rw [am_cpK (by omega), am_cpK (by omega), am_cpK (by omega), am_upS]
  · rw [am_cpK (by omega), am_cpK (by omega), am_cpS, pk_cpy_in (by omega) (by omega), am_upK (by omega), Nat.zero_add, Nat.sub_zero]
  · rw [am_cpK (by omega), am_cpS, pk_cpy_in (by omega) (by omega), am_cpK (by omega), am_upK (by omega), Nat.zero_add, Nat.sub_zero]
  · rw [am_cpS, pk_cpy_in (by omega) (by omega), am_cpK (by omega), am_cpK (by omega), am_upK (by omega), Nat.zero_add, Nat.sub_zero]
  · rw [am_cpK (by omega), am_cpK (by omega), am_cpK (by omega), am_up_ne (by omega)]
theorem c101c (d : Nat) (μ : am_Mem) : ∃ μ', am_call (d + 2) 101 [.ref 7, .ref 31] μ = am_ret none μ' ∧ ps_cpL 31 7 μ μ' := by
  rw [e101c, q101c_0, show ∀ m, am_call (d + 1) 2004 [.ref 32, .int (am_c 0), .ref 8, .int (am_c 0), .int 16] m = am_ret none (am_cp m 32 8 0 0 16) from fun _ => rfl, am_bV_ret, show ∀ m, am_call (d + 1) 2004 [.ref 33, .int (am_c 0), .ref 9, .int (am_c 0), .int 17] m = am_ret none (am_cp m 33 9 0 0 17) from fun _ => rfl, am_bV_ret, show ∀ m, am_call (d + 1) 2004 [.ref 34, .int (am_c 0), .ref 10, .int (am_c 0), .int 400] m = am_ret none (am_cp m 34 10 0 0 400) from fun _ => rfl, am_bV_ret]
  refine ⟨_, rfl, ?_, fun i hi => ?_, fun i hi => ?_, fun i hi => ?_, fun K hK => ?_⟩
  · rw [am_cpK (by omega), am_cpK (by omega), am_cpK (by omega), am_upS]
  · rw [am_cpK (by omega), am_cpK (by omega), am_cpS, pk_cpy_in (by omega) (by omega), am_upK (by omega), Nat.zero_add, Nat.sub_zero]
  · rw [am_cpK (by omega), am_cpS, pk_cpy_in (by omega) (by omega), am_cpK (by omega), am_upK (by omega), Nat.zero_add, Nat.sub_zero]
  · rw [am_cpS, pk_cpy_in (by omega) (by omega), am_cpK (by omega), am_cpK (by omega), am_upK (by omega), Nat.zero_add, Nat.sub_zero]
  · rw [am_cpK (by omega), am_cpK (by omega), am_cpK (by omega), am_up_ne (by omega)]
/-- all that is told, copied from the cells at F to those at T -/
def ps_cpT (F T : Nat) (μ μ' : am_Mem) : Prop := (∀ i, i = 0 ∨ i = 1 ∨ i = 2 ∨ i = 3 ∨ i = 4 ∨ i = 6 ∨ i = 7 ∨ i = 11 → μ' T i = μ F i) ∧ (∀ i, i < 16 → μ' (T + 1) i = μ (F + 1) i) ∧ (∀ i, i < 12 → μ' (T + 2) i = μ (F + 2) i) ∧ (∀ i, i < 12 → μ' (T + 3) i = μ (F + 3) i) ∧ (∀ i, i < 36 → μ' (T + 4) i = μ (F + 4) i) ∧ (∀ i, i < 320 → μ' (T + 5) i = μ (F + 5) i) ∧ (μ' (T + 6) 0 = μ (F + 6) 0 ∧ (∀ i, i < 16 → μ' (T + 7) i = μ (F + 7) i) ∧ (∀ i, i < 17 → μ' (T + 8) i = μ (F + 8) i) ∧ (∀ i, i < 400 → μ' (T + 9) i = μ (F + 9) i)) ∧ ∀ K, K < T ∨ T + 9 < K → μ' K = μ K
theorem ps_Rc.cp {F T : Nat} {S : ps_S} {μ μ' : am_Mem} (h : ps_Rc F S μ) (hW : ps_Wf S) (hc : ps_cpT F T μ μ') : ps_Rc T S μ' := by
  obtain ⟨c0, c1, c2, c3, c4, c5, -, -⟩ := hc
  obtain ⟨r1, r2, r3, r4, r5, r6, r7, r8, r9, r10, r11, r12, r13⟩ := h
  have w1 : S.w ≤ 16 := hW.1
  have w7 : S.n ≤ 12 := hW.2.2.2.2.2.2.1
  have w9 : S.bn ≤ 80 := hW.2.2.2.2.2.2.2.2.1
  refine ⟨by rw [c0 4 (by omega)]; exact r1, fun k hk => ?_, by rw [c0 6 (by omega)]; exact r3, by rw [c0 1 (by omega)]; exact r4, by rw [c0 2 (by omega)]; exact r5, by rw [c0 3 (by omega)]; exact r6, by rw [c0 0 (by omega)]; exact r7, by rw [c0 7 (by omega)]; exact r8, fun e he => ?_, fun e he => ?_, fun e i he hi => ?_, by rw [c0 11 (by omega)]; exact r12, fun i f hi hf => ?_⟩
  · rw [c1 k (by omega)]; exact r2 k hk
  · rw [c2 e (by omega)]; exact r9 e he
  · rw [c3 e (by omega)]; exact r10 e he
  · have := (hW.e he).2.2.2.2.2.1
    rw [c4 _ (by omega)]; exact r11 e i he hi
  · rw [c5 _ (by omega)]; exact r13 i f hi hf
theorem ps_Lc.cpT {F T : Nat} {law : List (Bool × List (Nat × Nat))} {μ μ' : am_Mem} (h : ps_Lc (F + 6) law μ) (hw : ps_Lw law) (hc : ps_cpT F T μ μ') : ps_Lc (T + 6) law μ' := by
  obtain ⟨-, -, -, -, -, -, ⟨l0, l1, l2, l3⟩, -⟩ := hc
  obtain ⟨μ2, hμ2⟩ : ∃ μ2 : am_Mem, μ2 = fun K => if K < T + 6 ∨ T + 6 + 3 < K then μ K else μ' K := ⟨_, rfl⟩
  have k : ∀ K, T + 6 ≤ K → K ≤ T + 9 → μ2 K = μ' K := fun K h1 h2 => by rw [hμ2]; exact if_neg (by omega)
  have hcp : ps_cpL (F + 6) (T + 6) μ μ2 := ⟨by rw [k _ (by omega) (by omega)]; exact l0, fun i hi => by rw [k _ (by omega) (by omega)]; exact l1 i hi, fun i hi => by rw [k _ (by omega) (by omega)]; exact l2 i hi, fun i hi => by rw [k _ (by omega) (by omega)]; exact l3 i hi, fun K hK => by rw [hμ2]; exact if_pos hK⟩
  exact (h.cp hw hcp).off (k _ (by omega) (by omega)).symm (k _ (by omega) (by omega)).symm (k _ (by omega) (by omega)).symm (k _ (by omega) (by omega)).symm
theorem c701a (d : Nat) (μ : am_Mem) : ∃ μ', am_call (d + 3) 701 [.ref 1, .ref 13] μ = am_ret none μ' ∧ ps_cpT 13 1 μ μ' := by
  rw [e701a, q701a_0, show ∀ m, am_call (d + 2) 2004 [.ref 14, .int (am_c 0), .ref 2, .int (am_c 0), .int 16] m = am_ret none (am_cp m 14 2 0 0 16) from fun _ => rfl, am_bV_ret, show ∀ m, am_call (d + 2) 2004 [.ref 15, .int (am_c 0), .ref 3, .int (am_c 0), .int 12] m = am_ret none (am_cp m 15 3 0 0 12) from fun _ => rfl, am_bV_ret, show ∀ m, am_call (d + 2) 2004 [.ref 16, .int (am_c 0), .ref 4, .int (am_c 0), .int 12] m = am_ret none (am_cp m 16 4 0 0 12) from fun _ => rfl, am_bV_ret, show ∀ m, am_call (d + 2) 2004 [.ref 17, .int (am_c 0), .ref 5, .int (am_c 0), .int 36] m = am_ret none (am_cp m 17 5 0 0 36) from fun _ => rfl, am_bV_ret, show ∀ m, am_call (d + 2) 2004 [.ref 18, .int (am_c 0), .ref 6, .int (am_c 0), .int 320] m = am_ret none (am_cp m 18 6 0 0 320) from fun _ => rfl, am_bV_ret]
  generalize hm : am_cp _ 18 6 0 0 320 = m5
  have f0 : ∀ i, i = 0 ∨ i = 1 ∨ i = 2 ∨ i = 3 ∨ i = 4 ∨ i = 6 ∨ i = 7 ∨ i = 11 → m5 1 i = μ 13 i := by
    rintro i (rfl | rfl | rfl | rfl | rfl | rfl | rfl | rfl)
    all_goals (rw [← hm]; simp (disch := omega) only [am_cpK, am_upK, am_upI, am_upS])
  have f1 : ∀ i, i < 16 → m5 2 i = μ 14 i := fun i hi => by
    rw [← hm]; simp (disch := omega) only [am_cpK, am_cpS, am_upK, am_up_ne, pk_cpy_in, Nat.zero_add, Nat.sub_zero]
  have f2 : ∀ i, i < 12 → m5 3 i = μ 15 i := fun i hi => by
    rw [← hm]; simp (disch := omega) only [am_cpK, am_cpS, am_upK, am_up_ne, pk_cpy_in, Nat.zero_add, Nat.sub_zero]
  have f3 : ∀ i, i < 12 → m5 4 i = μ 16 i := fun i hi => by
    rw [← hm]; simp (disch := omega) only [am_cpK, am_cpS, am_upK, am_up_ne, pk_cpy_in, Nat.zero_add, Nat.sub_zero]
  have f4 : ∀ i, i < 36 → m5 5 i = μ 17 i := fun i hi => by
    rw [← hm]; simp (disch := omega) only [am_cpK, am_cpS, am_upK, am_up_ne, pk_cpy_in, Nat.zero_add, Nat.sub_zero]
  have f5 : ∀ i, i < 320 → m5 6 i = μ 18 i := fun i hi => by
    rw [← hm]; simp (disch := omega) only [am_cpK, am_cpS, am_upK, am_up_ne, pk_cpy_in, Nat.zero_add, Nat.sub_zero]
  have fK : ∀ K, K < 1 ∨ 6 < K → m5 K = μ K := fun K hK => by
    rw [← hm]; simp (disch := omega) only [am_cpK, am_up_ne]
  obtain ⟨μ', g0, g1, g2, g3, g4, g5⟩ := c101b d m5
  rw [g0, am_bV_ret]
  exact ⟨μ', rfl, fun i hi => by rw [g5 1 (by omega)]; exact f0 i hi, fun i hi => by rw [g5 (1 + 1) (by omega)]; exact f1 i hi, fun i hi => by rw [g5 (1 + 2) (by omega)]; exact f2 i hi, fun i hi => by rw [g5 (1 + 3) (by omega)]; exact f3 i hi, fun i hi => by rw [g5 (1 + 4) (by omega)]; exact f4 i hi, fun i hi => by rw [g5 (1 + 5) (by omega)]; exact f5 i hi, ⟨by rw [g1, fK 19 (by omega)], fun i hi => by rw [g2 i hi, fK (19 + 1) (by omega)], fun i hi => by rw [g3 i hi, fK (19 + 2) (by omega)], fun i hi => by rw [g4 i hi, fK (19 + 3) (by omega)]⟩, fun K hK => by rw [g5 K (by omega), fK K (by omega)]⟩
theorem c701b (d : Nat) (μ : am_Mem) : ∃ μ', am_call (d + 3) 701 [.ref 13, .ref 1] μ = am_ret none μ' ∧ ps_cpT 1 13 μ μ' := by
  rw [e701b, q701b_0, show ∀ m, am_call (d + 2) 2004 [.ref 2, .int (am_c 0), .ref 14, .int (am_c 0), .int 16] m = am_ret none (am_cp m 2 14 0 0 16) from fun _ => rfl, am_bV_ret, show ∀ m, am_call (d + 2) 2004 [.ref 3, .int (am_c 0), .ref 15, .int (am_c 0), .int 12] m = am_ret none (am_cp m 3 15 0 0 12) from fun _ => rfl, am_bV_ret, show ∀ m, am_call (d + 2) 2004 [.ref 4, .int (am_c 0), .ref 16, .int (am_c 0), .int 12] m = am_ret none (am_cp m 4 16 0 0 12) from fun _ => rfl, am_bV_ret, show ∀ m, am_call (d + 2) 2004 [.ref 5, .int (am_c 0), .ref 17, .int (am_c 0), .int 36] m = am_ret none (am_cp m 5 17 0 0 36) from fun _ => rfl, am_bV_ret, show ∀ m, am_call (d + 2) 2004 [.ref 6, .int (am_c 0), .ref 18, .int (am_c 0), .int 320] m = am_ret none (am_cp m 6 18 0 0 320) from fun _ => rfl, am_bV_ret]
  generalize hm : am_cp _ 6 18 0 0 320 = m5
  have f0 : ∀ i, i = 0 ∨ i = 1 ∨ i = 2 ∨ i = 3 ∨ i = 4 ∨ i = 6 ∨ i = 7 ∨ i = 11 → m5 13 i = μ 1 i := by
    rintro i (rfl | rfl | rfl | rfl | rfl | rfl | rfl | rfl)
    all_goals (rw [← hm]; simp (disch := omega) only [am_cpK, am_upK, am_upI, am_upS])
  have f1 : ∀ i, i < 16 → m5 14 i = μ 2 i := fun i hi => by
    rw [← hm]; simp (disch := omega) only [am_cpK, am_cpS, am_upK, am_up_ne, pk_cpy_in, Nat.zero_add, Nat.sub_zero]
  have f2 : ∀ i, i < 12 → m5 15 i = μ 3 i := fun i hi => by
    rw [← hm]; simp (disch := omega) only [am_cpK, am_cpS, am_upK, am_up_ne, pk_cpy_in, Nat.zero_add, Nat.sub_zero]
  have f3 : ∀ i, i < 12 → m5 16 i = μ 4 i := fun i hi => by
    rw [← hm]; simp (disch := omega) only [am_cpK, am_cpS, am_upK, am_up_ne, pk_cpy_in, Nat.zero_add, Nat.sub_zero]
  have f4 : ∀ i, i < 36 → m5 17 i = μ 5 i := fun i hi => by
    rw [← hm]; simp (disch := omega) only [am_cpK, am_cpS, am_upK, am_up_ne, pk_cpy_in, Nat.zero_add, Nat.sub_zero]
  have f5 : ∀ i, i < 320 → m5 18 i = μ 6 i := fun i hi => by
    rw [← hm]; simp (disch := omega) only [am_cpK, am_cpS, am_upK, am_up_ne, pk_cpy_in, Nat.zero_add, Nat.sub_zero]
  have fK : ∀ K, K < 13 ∨ 18 < K → m5 K = μ K := fun K hK => by
    rw [← hm]; simp (disch := omega) only [am_cpK, am_up_ne]
  obtain ⟨μ', g0, g1, g2, g3, g4, g5⟩ := c101a d m5
  rw [g0, am_bV_ret]
  exact ⟨μ', rfl, fun i hi => by rw [g5 13 (by omega)]; exact f0 i hi, fun i hi => by rw [g5 (13 + 1) (by omega)]; exact f1 i hi, fun i hi => by rw [g5 (13 + 2) (by omega)]; exact f2 i hi, fun i hi => by rw [g5 (13 + 3) (by omega)]; exact f3 i hi, fun i hi => by rw [g5 (13 + 4) (by omega)]; exact f4 i hi, fun i hi => by rw [g5 (13 + 5) (by omega)]; exact f5 i hi, ⟨by rw [g1, fK 7 (by omega)], fun i hi => by rw [g2 i hi, fK (7 + 1) (by omega)], fun i hi => by rw [g3 i hi, fK (7 + 2) (by omega)], fun i hi => by rw [g4 i hi, fK (7 + 3) (by omega)]⟩, fun K hK => by rw [g5 K (by omega), fK K (by omega)]⟩
def ps_O.im (O : ps_O) : ps_O := (O.S, O.tl, O.tp, O.fk, O.fp, O.past, some O.S)
def ps_image (O : ps_O) (x : Int32) : Bool × ps_O := if x = 0 then (match O.img with | none => (false, O) | some S => (true, O.fg S)) else (true, O.im)
theorem W_image (O : ps_O) (hO : ps_Ow O) (x : Int32) : ps_Ow (ps_image O x).2 := by
  unfold ps_image
  obtain ⟨o1, o2, o3, o4, o5, o6, o7, o8⟩ := id hO
  by_cases hx : x = 0
  · rw [if_pos hx]
    cases hi : O.img with
    | none => exact hO
    | some S =>
      refine ⟨(o8 S hi).1, (o8 S hi).2, o3, o4, Nat.zero_le _, Nat.zero_le _, fun j p hp => ?_, o8⟩
      have hp : ([] : List ps_P)[j]? = some p := hp
      simp at hp
  · rw [if_neg hx]
    refine ⟨o1, o2, o3, o4, o5, o6, o7, fun S' hS => ?_⟩
    have hS : some O.S = some S' := hS
    cases hS
    exact ⟨o1, o2⟩
theorem C_image (d : Nat) (O : ps_O) (hO : ps_Ow O) (x : Int32) : ps_sC bG (d + 4) 926 [.ref 0, .int x] O (some (.int (nI (ps_image O x).1.toNat))) (ps_image O x).2 := by
  intro μ h
  obtain ⟨i1, i2, i3, i4, ⟨i5, nw, i6, i7, i8⟩, i9, i10, i11⟩ := id h
  rw [e926, q926_0, ps_image]
  by_cases hx : x = 0
  · rw [if_pos hx, if_pos hx, q926_22]
    cases hi : O.img with
    | none =>
      rw [i9 hi, if_pos rfl]
      exact ⟨μ, rfl, h, ps_kC.rf⟩
    | some S =>
      obtain ⟨a1, a2, a3⟩ := i10 S hi
      have hw := hO.2.2.2.2.2.2.2 S hi
      obtain ⟨μ1, g0, g1⟩ := c701a d μ
      have gK := g1.2.2.2.2.2.2.2
      rw [a1, if_neg (by decide), q926_31, g0, am_bV_ret, c401, am_bV_ret]
      have eK : ∀ K, K ≠ 37 → am_up μ1 37 4 (am_c 0) K = μ1 K := fun K hK => am_up_ne hK
      have e0 : ∀ K, K = 0 ∨ 11 ≤ K → K ≠ 37 → am_up μ1 37 4 (am_c 0) K = μ K := fun K h1 h2 => by rw [eK K h2, gK K (by omega)]
      refine ⟨_, rfl, ⟨?_, ?_, ?_, ?_, ⟨by rw [am_upS]; rfl, nw, i6, ?_, fun j p hp => ?_⟩, fun hn => ?_, fun S' hS => ?_, ?_⟩, fun K hK => e0 K (by omega) (by omega)⟩
      · exact (a2.cp (T := 1) hw.1 g1).off (fun k hk => eK _ (by omega))
      · exact (ps_Lc.cpT (F := 13) (T := 1) a3 hw.2 g1).off (eK _ (by omega)) (eK _ (by omega)) (eK _ (by omega)) (eK _ (by omega))
      · rw [e0 0 (by omega) (by omega), e0 25 (by omega) (by omega)]; exact i3
      · rw [e0 26 (by omega) (by omega)]; exact i4
      · rw [am_upI (by omega), gK 37 (by omega)]; exact i7
      · have hp : ([] : List ps_P)[j]? = some p := hp
        simp at hp
      · rw [e0 0 (by omega) (by omega)]; exact i9 hn
      · obtain ⟨b1, b2, b3⟩ := i10 S' hS
        exact ⟨by rw [e0 0 (by omega) (by omega)]; exact b1, b2.off (fun k hk => e0 _ (by omega) (by omega)), b3.off (e0 _ (by omega) (by omega)) (e0 _ (by omega) (by omega)) (e0 _ (by omega) (by omega)) (e0 _ (by omega) (by omega))⟩
      · rw [e0 48 (by omega) (by omega), e0 55 (by omega) (by omega)]; exact i11
  · rw [if_neg hx, if_neg hx]
    obtain ⟨μ1, g0, g1⟩ := c701b d μ
    have gK := g1.2.2.2.2.2.2.2
    rw [g0, am_bV_ret]
    have eK : ∀ K, K ≠ 0 → am_up μ1 0 2 (am_c 1) K = μ1 K := fun K hK => am_up_ne hK
    have e0 : ∀ K, K ≠ 0 → K < 13 ∨ 22 < K → am_up μ1 0 2 (am_c 1) K = μ K := fun K h1 h2 => by rw [eK K h1, gK K (by omega)]
    have z0 : ∀ i, i ≠ 2 → am_up μ1 0 2 (am_c 1) 0 i = μ 0 i := fun i hi => by rw [am_upI hi, gK 0 (by omega)]
    refine ⟨_, rfl, ⟨?_, ?_, ?_, ?_, ⟨?_, nw, i6, ?_, fun j p hp => ?_⟩, fun hn => ?_, fun S' hS => ?_, ?_⟩, fun K hK => e0 K (by omega) (by omega)⟩
    · exact i1.off (fun k hk => e0 _ (by omega) (by omega))
    · exact i2.off (e0 _ (by omega) (by omega)) (e0 _ (by omega) (by omega)) (e0 _ (by omega) (by omega)) (e0 _ (by omega) (by omega))
    · rw [z0 4 (by omega), e0 25 (by omega) (by omega)]; exact i3
    · rw [e0 26 (by omega) (by omega)]; exact i4
    · rw [e0 37 (by omega) (by omega)]; exact i5
    · rw [e0 37 (by omega) (by omega)]; exact i7
    · rw [e0 38 (by omega) (by omega), e0 39 (by omega) (by omega), e0 40 (by omega) (by omega)]; exact i8 j p hp
    · have hn : some O.S = none := hn
      exact absurd hn (by simp)
    · have hS : some O.S = some S' := hS
      cases hS
      exact ⟨by rw [am_upS]; rfl, (i1.cp (T := 13) hO.1 g1).off (fun k hk => eK _ (by omega)), (ps_Lc.cpT (F := 1) (T := 13) i2 hO.2.1 g1).off (eK _ (by omega)) (eK _ (by omega)) (eK _ (by omega)) (eK _ (by omega))⟩
    · rw [e0 48 (by omega) (by omega), e0 55 (by omega) (by omega)]; exact i11
theorem m1078_15 (d : Nat) {A B : Nat} {x : Int32} (hAB : A ≠ B) {μ : am_Mem} (st : ∀ (k : Nat) (μ1 : am_Mem), k < 1320 → am_ev (am_call d) 1078 15 [.ref 56, .int x, .int (nI k)] [] μ1 = am_ev (am_call d) 1078 15 [.ref 56, .int x, .int (nI (k + 1))] [] (am_up μ1 B k (μ1 A k))) : ∀ i k (μ1 : am_Mem), k + i = 1320 → (∀ j, μ1 B j = if j < k then μ A j else μ B j) → (∀ K, K ≠ B → μ1 K = μ K) → ∃ μ', am_ev (am_call d) 1078 15 [.ref 56, .int x, .int (nI k)] [] μ1 = am_ev (am_call d) 1078 59 [.ref 56, .int x, .int (nI 1320)] [] μ' ∧ (∀ j, j < 1320 → μ' B j = μ A j) ∧ ∀ K, K ≠ B → μ' K = μ K := by
  intro i
  induction i with
  | zero =>
    intro k μ1 hk h1 h2
    have hk : k = 1320 := hk
    subst hk
    rw [q1078_15, if_pos (by decide)]
    exact ⟨μ1, rfl, fun j hj => by rw [h1, if_pos hj], h2⟩
  | succ i ih =>
    intro k μ1 hk h1 h2
    rw [st k μ1 (by omega)]
    refine ih (k + 1) _ (by omega) (fun j => ?_) (fun K hK => by rw [am_up_ne hK]; exact h2 K hK)
    by_cases hjk : j = k
    · subst hjk
      rw [am_upS, if_pos (by omega), h2 A hAB]
    · rw [am_upI hjk, h1]
      by_cases hc : j < k
      · rw [if_pos hc, if_pos (by omega)]
      · rw [if_neg hc, if_neg (by omega)]
theorem ps_Rm.cp {A B : Nat} {S : ps_S} {μ μ' : am_Mem} (h : ps_Rm A S μ) (hW : ps_Wf S) (e : ∀ j, j < 1320 → μ' B j = μ A j) : ps_Rm B S μ' := by
  have w1 : S.w ≤ 16 := hW.1
  have w7 : S.n ≤ 12 := hW.2.2.2.2.2.2.1
  have w9 : S.bn ≤ 80 := hW.2.2.2.2.2.2.2.2.1
  obtain ⟨r1, r2, r3, r4, r5, r6, r7, r8, r9, r10, r11, r12, r13⟩ := h
  refine ⟨by rw [e _ (by omega)]; exact r1, fun k hk => by rw [e _ (by omega)]; exact r2 k hk, fun k hk => by rw [e _ (by omega)]; exact r3 k hk, by rw [e _ (by omega)]; exact r4, by rw [e _ (by omega)]; exact r5, by rw [e _ (by omega)]; exact r6, by rw [e _ (by omega)]; exact r7, by rw [e _ (by omega)]; exact r8, fun k hk => by rw [e _ (by omega)]; exact r9 k hk, fun k hk => by rw [e _ (by omega)]; exact r10 k hk, fun k i hk hi => ?_, by rw [e _ (by omega)]; exact r12, fun i f hi hf => by rw [e _ (by omega)]; exact r13 i f hi hf⟩
  have := (hW.e hk).2.2.2.2.2.1
  rw [e _ (by omega)]; exact r11 k i hk hi
theorem ps_Lm.cp {A B : Nat} {law : List (Bool × List (Nat × Nat))} {μ μ' : am_Mem} (h : ps_Lm A law μ) (hw : ps_Lw law) (e : ∀ j, j < 1320 → μ' B j = μ A j) : ps_Lm B law μ' := by
  refine ⟨by rw [e _ (by omega)]; exact h.1, fun l q hq => ?_⟩
  obtain ⟨a1, a2, a3, a4⟩ := h.2 l q hq
  have hl := ps_pos_len (f := fun q => q.2.length) hq
  have h16 : law.length ≤ 16 := hw.1
  have h400 : ps_posM law law.length ≤ 400 := hw.2.2.1
  have hl2 : ps_posM law l + q.2.length ≤ ps_posM law law.length := hl.2
  refine ⟨by rw [e _ (by omega)]; exact a1, by rw [e _ (by omega)]; exact a2, by rw [e _ (by omega)]; exact a3, fun j q' hj => ?_⟩
  have hjl : j < q.2.length := by
    rcases Nat.lt_or_ge j q.2.length with z | z
    · exact z
    · rw [List.getElem?_eq_none z] at hj
      exact absurd hj (by simp)
  rw [e _ (by omega), e _ (by omega)]
  exact a4 j q' hj
theorem M_image (d : Nat) (O : ps_O) (hO : ps_Ow O) (x : Int32) : ps_sM (d + 2) 1078 [.ref 56, .int x] O (some (.int (nI (ps_image O x).1.toNat))) (ps_image O x).2 := by
  intro μ h
  obtain ⟨i1, i2, i3, i4, ⟨i5, i5'⟩, i6, i7⟩ := id h
  rw [e1078, q1078_0, ps_image]
  by_cases hx : x = 0
  · rw [if_pos hx, if_pos hx]
    cases hi : O.img with
    | none =>
      rw [i6 hi, if_pos rfl]
      exact ⟨μ, rfl, h, ps_kM.rf⟩
    | some S =>
      obtain ⟨a1, a2, a3⟩ := i7 S hi
      have hw := hO.2.2.2.2.2.2.2 S hi
      rw [a1, if_neg (by decide), q1078_13]
      obtain ⟨μ1, g0, g1, g2⟩ := m1078_15 (d + 1) (A := 58) (B := 57) (x := x) (by omega) (μ := μ) (fun k μ1 hk => by rw [q1078_15, if_neg (by rw [am_cN, am_leN (by omega) (by omega)]; omega), if_pos hx, q1078_41, q1078_53, am_ixN (by omega), am_gbI hk, am_gbI hk, am_cN, nI_add]) 1320 0 μ (by omega) (fun j => by rw [if_neg (by omega)]) (fun _ _ => rfl)
      rw [show am_c 0 = nI 0 from rfl, g0, q1078_59, if_pos hx, m1008 d, am_bV_ret, q1078_67]
      have e56 : ∀ i, i ≠ 3 → i ≠ 4 → am_up (am_up μ1 56 3 (am_c 0)) 56 4 (am_c 1) 56 i = μ 56 i := fun i h3 h4 => by rw [am_upI h4, am_upI h3, g2 56 (by omega)]
      have eK : ∀ K, K ≠ 56 → K ≠ 57 → am_up (am_up μ1 56 3 (am_c 0)) 56 4 (am_c 1) K = μ K := fun K h1 h2 => by rw [am_up_ne h1, am_up_ne h1, g2 K h2]
      have e57 : ∀ j, j < 1320 → am_up (am_up μ1 56 3 (am_c 0)) 56 4 (am_c 1) 57 j = μ 58 j := fun j hj => by rw [am_upK (by omega), am_upK (by omega), g1 j hj]
      refine ⟨_, rfl, ⟨a2.cp hw.1 e57, a3.cp hw.2 e57, ?_, ?_, ⟨by rw [am_upI (by omega), am_upS]; rfl, fun j p hp => ?_⟩, fun hn => ?_, fun S' hS => ?_⟩, fun K hK => eK K (by omega) (by omega)⟩
      · rw [e56 13 (by omega) (by omega), eK 63 (by omega) (by omega)]; exact i3
      · rw [e56 20 (by omega) (by omega), e56 22 (by omega) (by omega)]; exact i4
      · have hp : ([] : List ps_P)[j]? = some p := hp
        simp at hp
      · have hn : O.img = none := hn
        rw [hi] at hn
        exact absurd hn (by simp)
      · obtain ⟨b1, b2, b3⟩ := i7 S' hS
        exact ⟨by rw [am_upS]; rfl, b2.off (eK 58 (by omega) (by omega)), b3.off (eK 58 (by omega) (by omega))⟩
  · rw [if_neg hx, if_neg hx, q1078_13]
    obtain ⟨μ1, g0, g1, g2⟩ := m1078_15 (d + 1) (A := 57) (B := 58) (x := x) (by omega) (μ := μ) (fun k μ1 hk => by rw [q1078_15, if_neg (by rw [am_cN, am_leN (by omega) (by omega)]; omega), if_neg hx, q1078_53, am_ixN (by omega), am_gbI hk, am_gbI hk, am_cN, nI_add]) 1320 0 μ (by omega) (fun j => by rw [if_neg (by omega)]) (fun _ _ => rfl)
    rw [show am_c 0 = nI 0 from rfl, g0, q1078_59, if_neg hx, q1078_67]
    have e56 : ∀ i, i ≠ 4 → am_up μ1 56 4 (am_c 1) 56 i = μ 56 i := fun i h4 => by rw [am_upI h4, g2 56 (by omega)]
    have eK : ∀ K, K ≠ 56 → K ≠ 58 → am_up μ1 56 4 (am_c 1) K = μ K := fun K h1 h2 => by rw [am_up_ne h1, g2 K h2]
    have e58 : ∀ j, j < 1320 → am_up μ1 56 4 (am_c 1) 58 j = μ 57 j := fun j hj => by rw [am_upK (by omega), g1 j hj]
    refine ⟨_, rfl, ⟨i1.off (eK 57 (by omega) (by omega)), i2.off (eK 57 (by omega) (by omega)), ?_, ?_, ⟨?_, fun j p hp => ?_⟩, fun hn => ?_, fun S' hS => ?_⟩, fun K hK => eK K (by omega) (by omega)⟩
    · rw [e56 13 (by omega), eK 63 (by omega) (by omega)]; exact i3
    · rw [e56 20 (by omega), e56 22 (by omega)]; exact i4
    · rw [e56 3 (by omega)]; exact i5
    · rw [eK 59 (by omega) (by omega)]; exact i5' j p hp
    · have hn : some O.S = none := hn
      exact absurd hn (by simp)
    · have hS : some O.S = some S' := hS
      cases hS
      exact ⟨by rw [am_upS]; rfl, i1.cp hO.1 e58, i2.cp hO.2.1 e58⟩
