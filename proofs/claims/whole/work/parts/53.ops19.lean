variable {bG : Nat}
/-! scratch cells alone change -/
def ps_scC (μ μ' : am_Mem) : Prop := ∀ K, ps_cC.contains K = true ∨ 56 ≤ K → μ' K = μ K
def ps_scM (μ μ' : am_Mem) : Prop := (∀ K, K = 57 ∨ K = 58 ∨ K = 59 ∨ K = 63 ∨ K < 56 ∨ 73 ≤ K → μ' K = μ K) ∧ ∀ i, i = 3 ∨ i = 4 ∨ i = 13 ∨ i = 20 ∨ i = 22 → μ' 56 i = μ 56 i
theorem ps_scC.rf (μ : am_Mem) : ps_scC μ μ := fun _ _ => rfl
theorem ps_scC.tr {μ μ1 μ2 : am_Mem} (h : ps_scC μ μ1) (h' : ps_scC μ1 μ2) : ps_scC μ μ2 := fun K hK => (h' K hK).trans (h K hK)
theorem ps_scC.up {μ μ1 : am_Mem} (h : ps_scC μ μ1) {K i : Nat} {x : Int32} (hK : (!ps_cC.contains K && Nat.blt K 56) = true) : ps_scC μ (am_up μ1 K i x) := fun K' hK' => by
  have h1 := Bool.and_eq_true_iff.mp hK
  have h2 := Nat.le_of_ble_eq_true h1.2
  rw [am_up_ne (fun e => ?_)]
  · exact h K' hK'
  · subst e
    rcases hK' with z | z
    · rw [z] at h1
      exact absurd h1.1 (by decide)
    · omega
theorem ps_scC.of {l : List Nat} {μ μ' : am_Mem} (h : ps_off l μ μ') (hl : l.all (fun K => !ps_cC.contains K && Nat.blt K 56) = true) : ps_scC μ μ' := fun K hK => h K (fun z => by
  have h1 := Bool.and_eq_true_iff.mp (List.all_eq_true.mp hl K z)
  have h2 := Nat.le_of_ble_eq_true h1.2
  rcases hK with y | y
  · rw [y] at h1
    exact absurd h1.1 (by decide)
  · omega)
theorem ps_scC.c {μ μ' : am_Mem} (h : ps_scC μ μ') {K : Nat} (hK : ps_cC.contains K = true) : μ' K = μ K := h K (Or.inl hK)
theorem ps_scC.R {S : ps_S} {μ μ' : am_Mem} (h : ps_scC μ μ') (hR : ps_Rc 1 S μ) : ps_Rc 1 S μ' := hR.off (fun k hk => by
  rcases (show k = 0 ∨ k = 1 ∨ k = 2 ∨ k = 3 ∨ k = 4 ∨ k = 5 by omega) with rfl | rfl | rfl | rfl | rfl | rfl <;> exact h.c rfl)
theorem ps_scC.L {law : List (Bool × List (Nat × Nat))} {μ μ' : am_Mem} (h : ps_scC μ μ') (hL : ps_Lc 7 law μ) : ps_Lc 7 law μ' := hL.off (h.c rfl) (h.c rfl) (h.c rfl) (h.c rfl)
theorem ps_scC.I {O : ps_O} {μ μ' : am_Mem} (h : ps_scC μ μ') (hI : ps_Ic bG O μ) : ps_Ic bG O μ' := hI.off (fun K hK => h.c (List.contains_iff_mem.mpr hK))
theorem ps_scC.k {μ μ' : am_Mem} (h : ps_scC μ μ') : ps_kC μ μ' := fun K hK => h K (Or.inr hK)
theorem ps_scM.rf (μ : am_Mem) : ps_scM μ μ := ⟨fun _ _ => rfl, fun _ _ => rfl⟩
theorem ps_scM.tr {μ μ1 μ2 : am_Mem} (h : ps_scM μ μ1) (h' : ps_scM μ1 μ2) : ps_scM μ μ2 := ⟨fun K hK => (h'.1 K hK).trans (h.1 K hK), fun i hi => (h'.2 i hi).trans (h.2 i hi)⟩
theorem ps_scM.up {μ μ1 : am_Mem} (h : ps_scM μ μ1) {K i : Nat} {x : Int32} (h1 : 60 ≤ K) (h2 : K ≠ 63) (h3 : K < 73) : ps_scM μ (am_up μ1 K i x) := ⟨fun K' hK' => by rw [am_up_ne (by omega)]; exact h.1 K' hK', fun j hj => by rw [am_upK (by omega)]; exact h.2 j hj⟩
theorem ps_scM.up6 {μ μ1 : am_Mem} (h : ps_scM μ μ1) {i : Nat} {x : Int32} (hi : 23 ≤ i) : ps_scM μ (am_up μ1 56 i x) := ⟨fun K' hK' => by rw [am_up_ne (by omega)]; exact h.1 K' hK', fun j hj => by rw [am_upI (by omega)]; exact h.2 j hj⟩
theorem ps_scM.of {l : List Nat} {μ μ' : am_Mem} (h : ps_off l μ μ') (hl : l.all (fun K => Nat.ble 60 K && !Nat.beq K 63 && Nat.blt K 73) = true) : ps_scM μ μ' := by
  have k : ∀ K, K ∈ l → 60 ≤ K ∧ K ≠ 63 ∧ K < 73 := fun K hK => by
    have h1 := Bool.and_eq_true_iff.mp (List.all_eq_true.mp hl K hK)
    have h2 := Bool.and_eq_true_iff.mp h1.1
    refine ⟨Nat.le_of_ble_eq_true h2.1, fun e => ?_, Nat.le_of_ble_eq_true h1.2⟩
    subst e
    exact absurd h2.2 (by decide)
  exact ⟨fun K hK => h K (fun z => by have := k K z; omega), fun i _ => by rw [h 56 (fun z => by have := k 56 z; omega)]⟩
theorem ps_scM.R {S : ps_S} {μ μ' : am_Mem} (h : ps_scM μ μ') (hR : ps_Rm 57 S μ) : ps_Rm 57 S μ' := hR.off (h.1 57 (by omega))
theorem ps_scM.L {law : List (Bool × List (Nat × Nat))} {μ μ' : am_Mem} (h : ps_scM μ μ') (hL : ps_Lm 57 law μ) : ps_Lm 57 law μ' := hL.off (h.1 57 (by omega))
theorem ps_scM.I {O : ps_O} {μ μ' : am_Mem} (h : ps_scM μ μ') (hI : ps_Im O μ) : ps_Im O μ' := by
  obtain ⟨h1, h2, h3, h4, h5, h6, h7⟩ := hI
  refine ⟨h1.off (h.1 57 (by omega)), h2.off (h.1 57 (by omega)), ?_, ?_, ?_, fun hn => by rw [h.2 4 (by omega)]; exact h6 hn, fun S' hS => ?_⟩
  · rw [h.2 13 (by omega), h.1 63 (by omega)]; exact h3
  · rw [h.2 20 (by omega), h.2 22 (by omega)]; exact h4
  · rw [h.2 3 (by omega), h.1 59 (by omega)]; exact h5
  · obtain ⟨a1, a2, a3⟩ := h7 S' hS
    exact ⟨by rw [h.2 4 (by omega)]; exact a1, a2.off (h.1 58 (by omega)), a3.off (h.1 58 (by omega))⟩
theorem ps_scM.k {μ μ' : am_Mem} (h : ps_scM μ μ') : ps_kM μ μ' := fun K hK => h.1 K (by omega)
/-! judge -/
def ps_fw (p : Nat → Bool) (us : Nat → Nat) (i : Nat) : Nat → Int32
  | 0 => am_c (-1)
  | k + 1 => if p (us i) = true then nI (us i) else ps_fw p us (i + 1) k
def ps_sp (S : ps_S) (e : Nat) : Int32 := ps_fw (fun w => decide (S.lim ≤ ps_ua S w e)) (S.us e) 0 (S.ct e)
def ps_out (S : ps_S) (e : Nat) : Int32 := ps_fw (fun w => !(S.kn ||| ps_mask S.hd e).testBit w) (S.us e) 0 (S.ct e)
def ps_jE (S : ps_S) (e : Nat) : Nat × Int32 := if (ps_mask S.hd e).testBit (S.hd e) = true then (1, am_c (-1)) else if ¬ ps_sp S e = am_c (-1) then (2, ps_sp S e) else if ps_fxe S e = false then (3, am_c (-1)) else if ¬ ps_out S e = am_c (-1) then (4, ps_out S e) else (0, am_c (-1))
def ps_jL (S : ps_S) : Nat → Nat → Nat × Int32 × Int32
  | 0, _ => (0, am_c (-1), am_c (-1))
  | k + 1, e => if (ps_jE S e).1 = 0 then ps_jL S k (e + 1) else ((ps_jE S e).1, nI e, (ps_jE S e).2)
theorem ps_jE4 (S : ps_S) (e : Nat) : (ps_jE S e).1 ≤ 4 := by
  unfold ps_jE
  repeat' split
  all_goals simp
def ps_judge (O : ps_O) (x : Int32) : Int32 := if x = am_c 0 then nI (ps_jL O.S O.S.n 0).1 else if x = am_c 1 then (ps_jL O.S O.S.n 0).2.1 else if x = am_c 2 then (ps_jL O.S O.S.n 0).2.2 else am_c (-1)
theorem nI_m1 {a : Nat} (h : a < 2147483648) : ¬ nI a = am_c (-1) := fun e => by
  have h1 : am_ix (nI a) = am_ix (am_c (-1)) := by rw [e]
  rw [am_ixN (by omega), am_ixm1] at h1
  omega
section Ops19
variable {S : ps_S} {μ : am_Mem}
theorem ps_hm_lt (hW : ps_Wf S) {e : Nat} (he : e ≤ S.n) : ps_mask S.hd e < 65536 := by
  have h16 : S.w ≤ 16 := hW.1
  have h1 : ps_mask S.hd e < 2 ^ S.w := ps_mask_lt (fun i hi => (hW.e (e := i) (by omega)).2.2.2.1)
  have h2 : 2 ^ S.w ≤ 2 ^ 16 := Nat.pow_le_pow_right (by omega) h16
  omega
theorem ps_kn_lt (hW : ps_Wf S) : S.kn < 65536 := by
  have h16 : S.w ≤ 16 := hW.1
  have h1 : S.kn < 2 ^ S.w := hW.2.2.1
  have h2 : 2 ^ S.w ≤ 2 ^ 16 := Nat.pow_le_pow_right (by omega) h16
  omega
theorem w4 (d : Nat) (hR : ps_Rc 1 S μ) (hW : ps_Wf S) {e : Nat} (he : e < S.n) : am_call (d + 4) 4 [.ref 1, .int (nI e)] μ = am_ret (some (.int (ps_sp S e))) μ := by
  obtain ⟨g1, g2, g3, g4, g5, g6, g7, g8, g9⟩ := hW.e he
  have hl : 1 ≤ S.lim ∧ S.lim ≤ 3 := hW.2.2.2.1
  obtain ⟨r1, r2, r3, r4, r5, r6, r7, r8, r9, r10, r11, r12, r13⟩ := id hR
  have r10e : μ 4 e = nI (S.ct e) := r10 e he
  have lp : ∀ k i (x3 : Value), i + k = S.ct e → am_ev (am_call (d + 3)) 4 2 [.ref 1, .int (nI e), .int (nI i), x3] [] μ = am_ret (some (.int (ps_fw (fun w => decide (S.lim ≤ ps_ua S w e)) (S.us e) i k))) μ := by
    intro k
    induction k with
    | zero =>
      intro i x3 hi
      rw [q4_2, am_ixN (by omega), am_gbI (by omega), r10e, if_pos (by rw [am_leN (by omega) (by omega)]; omega), q4_44]
      rfl
    | succ k ih =>
      intro i x3 hi
      have hu : μ 5 (e * 3 + i) = nI (S.us e i) := r11 e i he (by omega)
      have u16 := g7 i (by omega)
      have ul := ps_cnt_le (fun d => (ps_us S d).testBit (S.us e i)) e
      have ul : ps_ua S (S.us e i) e ≤ e := ul
      rw [q4_2, am_ixN (by omega), am_gbI (by omega), r10e, if_neg (by rw [am_leN (by omega) (by omega)]; omega), am_cN, pk_mul, nI_add, am_ixN (by omega), am_gbI (by omega), hu, w713 d hR hW (by omega) (by omega), am_bI_ret, r4, ps_fw]
      by_cases hc : S.lim ≤ ps_ua S (S.us e i) e
      · rw [if_neg (by rw [am_ltN (by omega) (by omega)]; omega), if_pos (decide_eq_true hc)]
      · rw [if_pos (by rw [am_ltN (by omega) (by omega)]; omega), if_neg (by simpa using hc), q4_38, am_cN, nI_add]
        exact ih (i + 1) _ (by omega)
  rw [e4, q4_0]
  exact lp (S.ct e) 0 _ (by omega)
theorem w5 (d : Nat) (hR : ps_Rc 1 S μ) (hW : ps_Wf S) {e set : Nat} (he : e < S.n) (hs : set < 2147483648) : am_call (d + 1) 5 [.ref 1, .int (nI e), .int (nI set)] μ = am_ret (some (.int (ps_fw (fun w => !set.testBit w) (S.us e) 0 (S.ct e)))) μ := by
  obtain ⟨g1, g2, g3, g4, g5, g6, g7, g8, g9⟩ := hW.e he
  obtain ⟨r1, r2, r3, r4, r5, r6, r7, r8, r9, r10, r11, r12, r13⟩ := id hR
  have r10e : μ 4 e = nI (S.ct e) := r10 e he
  have lp : ∀ k i (x4 : Value), i + k = S.ct e → am_ev (am_call d) 5 2 [.ref 1, .int (nI e), .int (nI set), .int (nI i), x4] [] μ = am_ret (some (.int (ps_fw (fun w => !set.testBit w) (S.us e) i k))) μ := by
    intro k
    induction k with
    | zero =>
      intro i x4 hi
      rw [q5_2, am_ixN (by omega), am_gbI (by omega), r10e, if_pos (by rw [am_leN (by omega) (by omega)]; omega), q5_42]
      rfl
    | succ k ih =>
      intro i x4 hi
      have hu : μ 5 (e * 3 + i) = nI (S.us e i) := r11 e i he (by omega)
      have u16 := g7 i (by omega)
      rw [q5_2, am_ixN (by omega), am_gbI (by omega), r10e, if_neg (by rw [am_leN (by omega) (by omega)]; omega), show am_c 3 = nI 3 from rfl, pk_mul, nI_add, am_ixN (by omega), am_gbI (by omega), hu, show am_c 1 = nI 1 from rfl, am_bit (by omega) hs, ps_fw]
      by_cases hc : set.testBit (S.us e i) = true
      · rw [hc, if_neg (by decide), if_neg (by decide), q5_36, am_cN, nI_add]
        exact ih (i + 1) _ (by omega)
      · rw [Bool.eq_false_iff.mpr hc, if_pos (by decide), if_pos (by decide)]
  rw [e5, q5_0]
  exact lp (S.ct e) 0 _ (by omega)
theorem w3 (d : Nat) (a b c : Int32) : am_call (d + 1) 3 [.ref 41, .int a, .int b, .int c] μ = am_ret none (am_up (am_up (am_up μ 41 0 a) 41 1 b) 41 2 c) := by rw [e3, q3_0]
theorem w2 (d : Nat) (hR : ps_Rc 1 S μ) (hL : ps_Lc 7 S.law μ) (hW : ps_Wf S) (hl : ps_Lw S.law) {e : Nat} (he : e < S.n) : ∃ μ', am_call (d + 5) 2 [.ref 41, .ref 1, .int (nI e), .int (nI (ps_mask S.hd e))] μ = am_ret none μ' ∧ ps_scC μ μ' ∧ ((ps_jE S e).1 = 0 → μ' 41 = μ 41) ∧ (¬ (ps_jE S e).1 = 0 → μ' 41 0 = nI (ps_jE S e).1 ∧ μ' 41 1 = nI e ∧ μ' 41 2 = (ps_jE S e).2) := by
  obtain ⟨g1, g2, g3, g4, g5, g6, g7, g8, g9⟩ := hW.e he
  have hm := ps_hm_lt hW (e := e) (by omega)
  have hk := ps_kn_lt hW
  have hor : S.kn ||| ps_mask S.hd e < 2 ^ 16 := Nat.or_lt_two_pow hk hm
  have hh : μ 3 e = nI (S.hd e) := hR.2.2.2.2.2.2.2.2.1 e he
  have fin : ∀ (μ1 : am_Mem) (f : Nat) (w : Int32), ps_scC μ μ1 → ¬ f = 0 → ps_jE S e = (f, w) → ∃ μ', am_ret none (am_up (am_up (am_up μ1 41 0 (nI f)) 41 1 (nI e)) 41 2 w) = am_ret none μ' ∧ ps_scC μ μ' ∧ ((ps_jE S e).1 = 0 → μ' 41 = μ 41) ∧ (¬ (ps_jE S e).1 = 0 → μ' 41 0 = nI (ps_jE S e).1 ∧ μ' 41 1 = nI e ∧ μ' 41 2 = (ps_jE S e).2) := by
    intro μ1 f w h1 hf hE
    refine ⟨_, rfl, ((h1.up rfl).up rfl).up rfl, fun z => absurd (by rw [hE] at z; exact z) hf, fun _ => ?_⟩
    rw [hE]
    exact ⟨by rw [am_upI (by omega), am_upI (by omega), am_upS], by rw [am_upI (by omega), am_upS], am_upS _ _ _ _⟩
  rw [e2, q2_0, am_ixN (by omega), am_gbI (by omega), hh, show am_c 1 = nI 1 from rfl, am_bit (by omega) (by omega)]
  by_cases c1 : (ps_mask S.hd e).testBit (S.hd e) = true
  · rw [c1, if_neg (by decide), w3 (d + 3), am_bV_ret]
    exact fin μ 1 (am_c (-1)) (ps_scC.rf μ) (by decide) (by rw [ps_jE, if_pos c1])
  rw [Bool.eq_false_iff.mpr c1, if_pos (by decide), q2_21, w4 d hR hW he, am_bI_ret]
  by_cases c2 : ps_sp S e = am_c (-1)
  · rw [if_pos c2, q2_43]
    obtain ⟨μ1, a1, a2⟩ := w717 d hR hL hW hl he
    have s1 : ps_scC μ μ1 := ps_scC.of a2 rfl
    rw [a1, am_bI_ret]
    by_cases c3 : ps_fxe S e = false
    · rw [c3, if_pos (by decide), show am_c 3 = nI 3 from rfl, w3 (d + 3), am_bV_ret]
      exact fin μ1 3 (am_c (-1)) s1 (by decide) (by rw [ps_jE, if_neg c1, if_neg (fun z => z c2), if_pos c3])
    · have hR1 := s1.R hR
      have k1 : μ1 1 6 = nI S.kn := hR1.2.2.1
      rw [show ps_fxe S e = true by simpa using c3, if_neg (by decide), q2_59, k1, am_or, w5 (d + 3) hR1 hW he (by omega), am_bI_ret, show ps_fw (fun w => !(S.kn ||| ps_mask S.hd e).testBit w) (S.us e) 0 (S.ct e) = ps_out S e from rfl]
      by_cases c4 : ps_out S e = am_c (-1)
      · rw [if_pos c4, q2_86]
        have hE : ps_jE S e = (0, am_c (-1)) := by rw [ps_jE, if_neg c1, if_neg (fun z => z c2), if_neg c3, if_neg (fun z => z c4)]
        refine ⟨μ1, rfl, s1, fun _ => a2 41 (by decide), fun z => absurd (by rw [hE]) z⟩
      · rw [if_neg c4, show am_c 4 = nI 4 from rfl, w3 (d + 3), am_bV_ret, q2_86]
        exact fin μ1 4 (ps_out S e) s1 (by decide) (by rw [ps_jE, if_neg c1, if_neg (fun z => z c2), if_neg c3, if_pos c4])
  · rw [if_neg c2, show am_c 2 = nI 2 from rfl, w3 (d + 3), am_bV_ret]
    exact fin μ 2 (ps_sp S e) (ps_scC.rf μ) (by decide) (by rw [ps_jE, if_neg c1, if_pos c2])
theorem w1_19 (d : Nat) (hW : ps_Wf S) (hl : ps_Lw S.law) : ∀ k e (μ : am_Mem), ps_Rc 1 S μ → ps_Lc 7 S.law μ → e + k = S.n → μ 41 0 = nI 0 → μ 41 1 = am_c (-1) → μ 41 2 = am_c (-1) → ∃ μ', am_ev (am_call (d + 5)) 1 19 [.ref 41, .ref 1, .int (nI (ps_mask S.hd e)), .int (nI e)] [] μ = am_ret none μ' ∧ ps_scC μ μ' ∧ μ' 41 0 = nI (ps_jL S k e).1 ∧ μ' 41 1 = (ps_jL S k e).2.1 ∧ μ' 41 2 = (ps_jL S k e).2.2 := by
  have hn : S.n ≤ 12 := hW.2.2.2.2.2.2.1
  intro k
  induction k with
  | zero =>
    intro e μ hR hL hk h0 h1 h2
    have r8 : μ 1 7 = nI S.n := hR.2.2.2.2.2.2.2.1
    rw [q1_19, r8, if_pos (by rw [am_leN (by omega) (by omega)]; omega), q1_58]
    exact ⟨μ, rfl, ps_scC.rf μ, h0, h1, h2⟩
  | succ k ih =>
    intro e μ hR hL hk h0 h1 h2
    have r8 : μ 1 7 = nI S.n := hR.2.2.2.2.2.2.2.1
    have hd16 := (hW.e (e := e) (by omega)).2.2.2.1
    have hw16 : S.w ≤ 16 := hW.1
    obtain ⟨μ1, a1, a2, a3, a4⟩ := w2 d hR hL hW hl (e := e) (by omega)
    have hR1 := a2.R hR
    have hL1 := a2.L hL
    have hh : μ1 3 e = nI (S.hd e) := hR1.2.2.2.2.2.2.2.2.1 e (by omega)
    rw [q1_19, r8, if_neg (by rw [am_leN (by omega) (by omega)]; omega), h0, if_pos (by decide), a1, am_bV_ret, am_ixN (by omega), am_gbI (by omega), hh, show am_c 1 = nI 1 from rfl, am_shl1 (by omega), am_or, nI_add, ps_jL]
    by_cases hE : (ps_jE S e).1 = 0
    · have e41 := a3 hE
      rw [if_pos hE]
      obtain ⟨μ', b1, b2, b3⟩ := ih (e + 1) μ1 hR1 hL1 (by omega) (by rw [e41]; exact h0) (by rw [e41]; exact h1) (by rw [e41]; exact h2)
      exact ⟨μ', b1, a2.tr b2, b3⟩
    · obtain ⟨b0, b1, b2⟩ := a4 hE
      have j4 := ps_jE4 S e
      rw [if_neg hE]
      have r8' : μ1 1 7 = nI S.n := hR1.2.2.2.2.2.2.2.1
      refine ⟨μ1, ?_, a2, b0, b1, b2⟩
      rw [q1_19, r8', b0, if_neg (show ¬ nI (ps_jE S e).1 = 0 by rw [am_eq0 (by omega)]; exact hE), q1_58]
      split <;> rfl
theorem C_judge (d : Nat) (O : ps_O) (hO : ps_Ow O) (x : Int32) : ps_sC bG (d + 7) 915 [.ref 0, .int x] O (some (.int (ps_judge O x))) O := by
  intro μ h
  generalize hμ0 : am_up (am_up (am_up μ 41 0 (am_c 0)) 41 1 (am_c (-1))) 41 2 (am_c (-1)) = μ0
  have s0 : ps_scC μ μ0 := by rw [← hμ0]; exact (((ps_scC.rf μ).up rfl).up rfl).up rfl
  obtain ⟨μ', a1, a2, a3, a4, a5⟩ := w1_19 d hO.1 hO.2.1 O.S.n 0 μ0 (s0.R h.1) (s0.L h.2.1) (by omega) (by rw [← hμ0, am_upI (by omega), am_upI (by omega), am_upS]; rfl) (by rw [← hμ0, am_upI (by omega), am_upS]) (by rw [← hμ0, am_upS])
  have sc := s0.tr a2
  have a1 : am_ev (am_call (d + 5)) 1 19 [.ref 41, .ref 1, .int (am_c 0), .int (am_c 0)] [] μ0 = am_ret none μ' := a1
  rw [e915, q915_0, e1, q1_0, hμ0, a1, am_bV_ret, q915_40, q915_48, q915_56, q915_64, a3, a4, a5]
  refine ⟨μ', ?_, sc.I h, sc.k⟩
  simp only [am_ret_ite]
  rfl
/-! judge, the model -/
theorem v1056 (d : Nat) (hR : ps_Rm 57 S μ) (hW : ps_Wf S) {e k : Nat} (he : e ≤ S.n) (hk : k < 16) : am_call (d + 2) 1056 [.ref 56, .int (nI k), .int (nI e)] μ = am_ret (some (.int (nI ((ps_mask S.hd e).testBit k).toNat))) μ := by
  have hn : S.n ≤ 12 := hW.2.2.2.2.2.2.1
  have hw16 : S.w ≤ 16 := hW.1
  have r9 : ∀ e, e < S.n → μ 57 (45 + 5 * e) = nI (S.hd e) := hR.2.2.2.2.2.2.2.2.1
  have lp : ∀ j i, i + j = e → (∀ t, t < i → S.hd t ≠ k) → am_ev (am_call (d + 1)) 1056 2 [.ref 56, .int (nI k), .int (nI e), .int (nI i)] [] μ = am_ret (some (.int (nI ((ps_mask S.hd e).testBit k).toNat))) μ := by
    intro j
    induction j with
    | zero =>
      intro i hi hno
      have hi : i = e := hi
      subst hi
      have : (ps_mask S.hd i).testBit k = false := Bool.eq_false_iff.mpr (fun z => by
        obtain ⟨t, t1, t2⟩ := ps_mask_bit.mp z
        exact hno t t1 t2)
      rw [this, q1056_2, if_pos (by rw [am_leN (by omega) (by omega)]; omega), q1056_25]
      rfl
    | succ j ih =>
      intro i hi hno
      have h16 := (hW.e (e := i) (by omega)).2.2.2.1
      rw [q1056_2, if_neg (by rw [am_leN (by omega) (by omega)]; omega), show am_c 0 = nI 0 from rfl, m1005 d (by omega), am_bI_ret, Nat.add_zero, r9 i (by omega)]
      by_cases hc : S.hd i = k
      · have : (ps_mask S.hd e).testBit k = true := ps_mask_bit.mpr ⟨i, by omega, hc⟩
        rw [this, if_pos (by rw [hc])]
        rfl
      · rw [if_neg (by rw [am_eqN (by omega) (by omega)]; exact hc), q1056_19, am_cN, nI_add]
        exact ih (i + 1) (by omega) (fun t ht => by
          by_cases hti : t = i
          · rw [hti]; exact hc
          · exact hno t (by omega))
  rw [e1056, q1056_0]
  exact lp e 0 (by omega) (fun t ht => by omega)
theorem v1057_23 (d : Nat) (hR : ps_Rm 57 S μ) (hW : ps_Wf S) {e : Nat} (he : e < S.n) (x3 : Value) : ∀ k i, i + k = S.ct e → am_ev (am_call (d + 3)) 1057 23 [.ref 56, .int (nI e), .int (nI i), x3] [] μ = if ps_fw (fun w => decide (S.lim ≤ ps_ua S w e)) (S.us e) i k = am_c (-1) then am_ev (am_call (d + 3)) 1057 78 [.ref 56, .int (nI e), .int (nI (S.ct e)), x3] [] μ else am_ret (some (.int (nI 2))) (am_up μ 56 23 (ps_fw (fun w => decide (S.lim ≤ ps_ua S w e)) (S.us e) i k)) := by
  obtain ⟨g1, g2, g3, g4, g5, g6, g7, g8, g9⟩ := hW.e he
  have hl : 1 ≤ S.lim ∧ S.lim ≤ 3 := hW.2.2.2.1
  obtain ⟨r1, r2, r3, r4, r5, r6, r7, r8, r9, r10, r11, r12, r13⟩ := id hR
  have r10e : μ 57 (45 + 5 * e + 1) = nI (S.ct e) := by rw [show 45 + 5 * e + 1 = 46 + 5 * e by omega]; exact r10 e he
  intro k
  induction k with
  | zero =>
    intro i hi
    have hi : i = S.ct e := hi
    subst hi
    rw [q1057_23, show am_c 1 = nI 1 from rfl, m1005 (d + 2) (by omega), am_bI_ret, r10e, if_pos (by rw [am_leN (by omega) (by omega)]; omega), ps_fw, if_pos rfl]
  | succ k ih =>
    intro i hi
    have hu : μ 57 (45 + 5 * e + (2 + i)) = nI (S.us e i) := by rw [show 45 + 5 * e + (2 + i) = 47 + 5 * e + i by omega]; exact r11 e i he (by omega)
    have u16 := g7 i (by omega)
    have ul : ps_ua S (S.us e i) e ≤ e := ps_cnt_le (fun d => (ps_us S d).testBit (S.us e i)) e
    rw [q1057_23, show am_c 1 = nI 1 from rfl, m1005 (d + 2) (by omega), am_bI_ret, r10e, if_neg (by rw [am_leN (by omega) (by omega)]; omega), show am_c 2 = nI 2 from rfl, nI_add, m1005 (d + 2) (by omega), am_bI_ret, hu, v1046 d hR hW (by omega) (by omega), am_bI_ret, r4, ps_fw]
    by_cases hc : S.lim ≤ ps_ua S (S.us e i) e
    · rw [if_pos (by rw [am_leN (by omega) (by omega)]; omega), if_pos (decide_eq_true hc), if_neg (nI_m1 (by omega)), q1057_58, show am_c 2 = nI 2 from rfl, nI_add, m1005 (d + 2) (by omega), am_bI_ret, hu]
    · rw [if_neg (by rw [am_leN (by omega) (by omega)]; omega), if_neg (show ¬ decide (S.lim ≤ ps_ua S (S.us e i) e) = true by simpa using hc), q1057_72, am_cN, nI_add]
      exact ih (i + 1) (by omega)
theorem v1057_90 (d : Nat) (hR : ps_Rm 57 S μ) (hW : ps_Wf S) {e : Nat} (he : e < S.n) : ∀ k i (x3 : Value), i + k = S.ct e → am_ev (am_call (d + 3)) 1057 90 [.ref 56, .int (nI e), .int (nI i), x3] [] μ = if ps_fw (fun w => !(S.kn ||| ps_mask S.hd e).testBit w) (S.us e) i k = am_c (-1) then am_ret (some (.int (nI 0))) μ else am_ret (some (.int (nI 4))) (am_up μ 56 23 (ps_fw (fun w => !(S.kn ||| ps_mask S.hd e).testBit w) (S.us e) i k)) := by
  obtain ⟨g1, g2, g3, g4, g5, g6, g7, g8, g9⟩ := hW.e he
  obtain ⟨r1, r2, r3, r4, r5, r6, r7, r8, r9, r10, r11, r12, r13⟩ := id hR
  have r10e : μ 57 (45 + 5 * e + 1) = nI (S.ct e) := by rw [show 45 + 5 * e + 1 = 46 + 5 * e by omega]; exact r10 e he
  intro k
  induction k with
  | zero =>
    intro i x3 hi
    rw [q1057_90, show am_c 1 = nI 1 from rfl, m1005 (d + 2) (by omega), am_bI_ret, r10e, if_pos (by rw [am_leN (by omega) (by omega)]; omega), ps_fw, if_pos rfl, q1057_147]
    rfl
  | succ k ih =>
    intro i x3 hi
    have hu : μ 57 (45 + 5 * e + (2 + i)) = nI (S.us e i) := by rw [show 45 + 5 * e + (2 + i) = 47 + 5 * e + i by omega]; exact r11 e i he (by omega)
    have u16 := g7 i (by omega)
    have hk : μ 57 (26 + S.us e i) = nI (S.kn.testBit (S.us e i)).toNat := r3 _ u16
    rw [q1057_90, show am_c 1 = nI 1 from rfl, m1005 (d + 2) (by omega), am_bI_ret, r10e, if_neg (by rw [am_leN (by omega) (by omega)]; omega), show am_c 2 = nI 2 from rfl, nI_add, m1005 (d + 2) (by omega), am_bI_ret, hu, show am_c 26 = nI 26 from rfl, nI_add, am_ixN (by omega), am_gbI (by omega), hk, v1056 (d + 1) hR hW (by omega) (by omega), am_bI_ret, ps_fw, Nat.testBit_or]
    cases hb : S.kn.testBit (S.us e i) with
    | true =>
      rw [if_pos (by decide), if_neg (show ¬ (!(true || (ps_mask S.hd e).testBit (S.us e i))) = true by simp), q1057_141, am_cN, nI_add]
      exact ih (i + 1) _ (by omega)
    | false =>
      rw [if_neg (by decide)]
      cases hm : (ps_mask S.hd e).testBit (S.us e i) with
      | true =>
        rw [if_neg (show ¬ nI (true : Bool).toNat = 0 by decide), if_neg (show ¬ (!(false || true)) = true by decide), q1057_141, am_cN, nI_add]
        exact ih (i + 1) _ (by omega)
      | false =>
        rw [if_pos (show nI (false : Bool).toNat = 0 by decide), if_pos (show (!(false || false)) = true by decide), if_neg (nI_m1 (by omega)), q1057_134]
        rfl
theorem v1057 (d : Nat) (hR : ps_Rm 57 S μ) (hL : ps_Lm 57 S.law μ) (hW : ps_Wf S) (hl : ps_Lw S.law) {e : Nat} (he : e < S.n) : ∃ μ', am_call (d + 5) 1057 [.ref 56, .int (nI e)] μ = am_ret (some (.int (nI (ps_jE S e).1))) μ' ∧ ps_scM μ μ' ∧ μ' 56 23 = (ps_jE S e).2 := by
  obtain ⟨g1, g2, g3, g4, g5, g6, g7, g8, g9⟩ := hW.e he
  generalize hμ0 : am_up μ 56 23 (am_c (-1)) = μ0
  have s0 : ps_scM μ μ0 := by rw [← hμ0]; exact (ps_scM.rf μ).up6 (by omega)
  have m0 : μ0 56 23 = am_c (-1) := by rw [← hμ0, am_upS]
  have hR0 := s0.R hR
  have hL0 := s0.L hL
  have r9 : μ0 57 (45 + 5 * e + 0) = nI (S.hd e) := hR0.2.2.2.2.2.2.2.2.1 e he
  rw [e1057, q1057_0, hμ0, show am_c 0 = nI 0 from rfl, m1005 (d + 3) (by omega), am_bI_ret, r9, v1056 (d + 2) hR0 hW (by omega) (by omega), am_bI_ret]
  by_cases c1 : (ps_mask S.hd e).testBit (S.hd e) = true
  · rw [c1, if_neg (by decide), ps_jE, if_pos c1]
    exact ⟨μ0, rfl, s0, m0⟩
  rw [Bool.eq_false_iff.mpr c1, if_pos (by decide), q1057_21, show am_c 0 = nI 0 from rfl, v1057_23 (d + 1) hR0 hW he .null (S.ct e) 0 (by omega), show ps_fw (fun w => decide (S.lim ≤ ps_ua S w e)) (S.us e) 0 (S.ct e) = ps_sp S e from rfl]
  by_cases c2 : ps_sp S e = am_c (-1)
  · rw [if_pos c2, q1057_78]
    obtain ⟨μ1, a1, a2⟩ := v1045 d hR0 hL0 hW hl he
    have s1 : ps_scM μ0 μ1 := ps_scM.of a2 rfl
    have m1 : μ1 56 23 = am_c (-1) := by rw [a2 56 (by decide)]; exact m0
    rw [a1, am_bI_ret]
    by_cases c3 : ps_fxe S e = false
    · rw [c3, if_pos (by decide), ps_jE, if_neg c1, if_neg (fun z => z c2), if_pos c3]
      exact ⟨μ1, rfl, s0.tr s1, m1⟩
    · rw [show ps_fxe S e = true by simpa using c3, if_neg (by decide), q1057_88, show am_c 0 = nI 0 from rfl, v1057_90 (d + 1) (s1.R hR0) hW he (S.ct e) 0 _ (by omega), show ps_fw (fun w => !(S.kn ||| ps_mask S.hd e).testBit w) (S.us e) 0 (S.ct e) = ps_out S e from rfl]
      by_cases c4 : ps_out S e = am_c (-1)
      · have hE : ps_jE S e = (0, am_c (-1)) := by rw [ps_jE, if_neg c1, if_neg (fun z => z c2), if_neg c3, if_neg (fun z => z c4)]
        rw [if_pos c4, hE]
        exact ⟨μ1, rfl, s0.tr s1, m1⟩
      · have hE : ps_jE S e = (4, ps_out S e) := by rw [ps_jE, if_neg c1, if_neg (fun z => z c2), if_neg c3, if_pos c4]
        rw [if_neg c4, hE]
        exact ⟨_, rfl, (s0.tr s1).up6 (by omega), am_upS _ _ _ _⟩
  · rw [if_neg c2, ps_jE, if_neg c1, if_pos c2]
    exact ⟨_, rfl, s0.up6 (by omega), am_upS _ _ _ _⟩
theorem v1058_13 (d : Nat) (hW : ps_Wf S) (hl : ps_Lw S.law) {x : Int32} (hx : am_ix x ≤ 2) : ∀ k e (μ : am_Mem) (x3 : Value), ps_Rm 57 S μ → ps_Lm 57 S.law μ → e + k = S.n → ∃ μ', am_ev (am_call (d + 5)) 1058 13 [.ref 56, .int x, .int (nI e), x3] [] μ = am_ret (some (.int (if x = am_c 0 then nI (ps_jL S k e).1 else if x = am_c 1 then (ps_jL S k e).2.1 else (ps_jL S k e).2.2))) μ' ∧ ps_scM μ μ' := by
  have hn : S.n ≤ 12 := hW.2.2.2.2.2.2.1
  intro k
  induction k with
  | zero =>
    intro e μ x3 hR hL hk
    have r8 : μ 57 1 = nI S.n := hR.2.2.2.2.2.2.2.1
    rw [q1058_13, r8, if_pos (by rw [am_leN (by omega) (by omega)]; omega), q1058_61, q1058_69, q1058_70, q1058_70, am_ret_ite]
    refine ⟨μ, ?_, ps_scM.rf μ⟩
    rw [ps_jL, ite_self]
    rfl
  | succ k ih =>
    intro e μ x3 hR hL hk
    have r8 : μ 57 1 = nI S.n := hR.2.2.2.2.2.2.2.1
    obtain ⟨μ1, a1, a2, a3⟩ := v1057 d hR hL hW hl (e := e) (by omega)
    have j4 := ps_jE4 S e
    rw [q1058_13, r8, if_neg (by rw [am_leN (by omega) (by omega)]; omega), a1, am_bI_ret, ps_jL]
    by_cases hE : (ps_jE S e).1 = 0
    · rw [if_pos (show nI (ps_jE S e).1 ≤ 0 by rw [hE]; decide), if_pos hE, q1058_55, am_cN, nI_add]
      obtain ⟨μ', b1, b2⟩ := ih (e + 1) μ1 (.int (nI (ps_jE S e).1)) (a2.R hR) (a2.L hL) (by omega)
      exact ⟨μ', b1, a2.tr b2⟩
    · rw [if_neg (show ¬ nI (ps_jE S e).1 ≤ 0 by rw [show (0 : Int32) = nI 0 from rfl, am_leN (by omega) (by omega)]; omega), if_neg hE, q1058_41, q1058_50, q1058_54, q1058_54, q1058_54, a3]
      simp only [am_ret_ite]
      exact ⟨μ1, rfl, a2⟩
theorem M_judge (d : Nat) (O : ps_O) (hO : ps_Ow O) (x : Int32) : ps_sM (d + 6) 1058 [.ref 56, .int x] O (some (.int (ps_judge O x))) O := by
  intro μ h
  rw [e1058, q1058_0, show am_c 0 = nI 0 from rfl, show am_c 2 = nI 2 from rfl, m1001c (d + 4) x (by omega) (by omega), am_bI_ret, ps_judge]
  by_cases hx : 0 ≤ am_ix x ∧ am_ix x ≤ 2
  · rw [decide_eq_true hx, if_neg (by decide), q1058_11]
    obtain ⟨μ', a1, a2⟩ := v1058_13 d hO.1 hO.2.1 hx.2 O.S.n 0 μ .null h.1 h.2.1 (by omega)
    refine ⟨μ', ?_, a2.I h, a2.k⟩
    have a1 : am_ev (am_call (d + 5)) 1058 13 [.ref 56, .int x, .int (am_c 0), .null] [] μ = _ := a1
    rw [a1]
    by_cases x0 : x = am_c 0
    · rw [if_pos x0, if_pos x0]
    · rw [if_neg x0, if_neg x0]
      by_cases x1 : x = am_c 1
      · rw [if_pos x1, if_pos x1]
      · have x2 : x = am_c 2 := by
          obtain ⟨k, hk, rfl⟩ := am_le_ix (by omega) hx.2
          rcases (show k = 0 ∨ k = 1 ∨ k = 2 by omega) with rfl | rfl | rfl
          · exact absurd rfl x0
          · exact absurd rfl x1
          · rfl
        rw [if_neg x1, if_neg x1, if_pos x2]
  · have ne : ∀ k, k ≤ 2 → ¬ x = nI k := fun k hk e => hx (by rw [e, am_ixN (by omega)]; omega)
    rw [decide_eq_false hx, if_pos (by decide), if_neg (show ¬ x = am_c 0 from ne 0 (by omega)), if_neg (show ¬ x = am_c 1 from ne 1 (by omega)), if_neg (show ¬ x = am_c 2 from ne 2 (by omega))]
    exact ⟨μ, rfl, h, ps_kM.rf⟩
end Ops19
