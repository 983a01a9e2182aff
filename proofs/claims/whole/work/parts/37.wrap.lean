/-! the dictionary's own questions, over ps_Rc and ps_Rm -/
def ps_us (S : ps_S) (e : Nat) : Nat := ps_mask (S.us e) (S.ct e)
def ps_ua (S : ps_S) (k e : Nat) : Nat := ps_cnt (fun d => (ps_us S d).testBit k) e
def ps_ff (p : Nat → Bool) (i : Nat) : Nat → Int32
  | 0 => am_c (-1)
  | f + 1 => if p i = true then nI i else ps_ff p (i + 1) f
def ps_led (S : ps_S) (k : Nat) : Int32 := ps_ff (fun e => (ps_us S e).testBit k) 0 S.n
def ps_sel (p : Nat → Bool) : Nat → Nat
  | 0 => 0
  | n + 1 => ps_sel p n ||| (if p n = true then 2 ^ n else 0)
section Wrap
variable {S : ps_S} {μ : am_Mem}
theorem ps_Wf.e (h : ps_Wf S) {e : Nat} (he : e < S.n) : S.n ≤ 12 ∧ S.w ≤ 16 ∧ e < 12 ∧ S.hd e < S.w ∧ 1 ≤ S.ct e ∧ S.ct e ≤ 3 ∧ (∀ i, i < S.ct e → S.us e i < S.w) ∧ ps_us S e < 2 ^ S.w ∧ ps_us S e < 65536 := by
  have h1 := h.2.2.2.2.2.2.2.1 e he
  have h2 : S.n ≤ 12 := h.2.2.2.2.2.2.1
  have h3 : S.w ≤ 16 := h.1
  have h4 : ps_us S e < 2 ^ S.w := ps_mask_lt (fun i hi => (h1.2.2.2.1 i hi).1)
  have h5 : 2 ^ S.w ≤ 2 ^ 16 := Nat.pow_le_pow_right (by omega) h3
  exact ⟨h2, h3, by omega, h1.1, h1.2.1, h1.2.2.1, fun i hi => (h1.2.2.2.1 i hi).1, h4, by omega⟩
theorem w711 (d : Nat) (hR : ps_Rc 1 S μ) (hW : ps_Wf S) {e : Nat} (he : e < S.n) : am_call (d + 1) 711 [.ref 1, .int (nI e)] μ = am_ret (some (.int (nI (ps_us S e)))) μ := by
  obtain ⟨a1, a2, a3, a4, a5, a6, a7, -, -⟩ := hW.e he
  obtain ⟨r1, r2, r3, r4, r5, r6, r7, r8, r9, r10, r11, r12, r13⟩ := hR
  exact c711 d a3 (r10 e he) a6 (fun i hi => r11 e i he hi) (fun i hi => by have := a7 i hi; omega)
theorem w712 (d : Nat) (hR : ps_Rc 1 S μ) (hW : ps_Wf S) {e w : Nat} (he : e < S.n) (hw : w < 32) : am_call (d + 2) 712 [.ref 1, .int (nI e), .int (nI w)] μ = am_ret (some (.int (nI ((ps_us S e).testBit w).toNat))) μ := by
  obtain ⟨a1, a2, a3, a4, a5, a6, a7, -, -⟩ := hW.e he
  obtain ⟨r1, r2, r3, r4, r5, r6, r7, r8, r9, r10, r11, r12, r13⟩ := hR
  exact c712 d a3 (r10 e he) a6 (fun i hi => r11 e i he hi) (fun i hi => by have := a7 i hi; omega) hw
theorem w713_5 (d : Nat) (hR : ps_Rc 1 S μ) (hW : ps_Wf S) {w e : Nat} (hw : w < 32) (he : e ≤ S.n) : ∀ k i, i + k = e → am_ev (am_call (d + 2)) 713 5 [.ref 1, .int (nI w), .int (nI e), .int (nI (ps_ua S w i)), .int (nI i)] [] μ = am_ret (some (.int (nI (ps_ua S w e)))) μ := by
  have hn : S.n ≤ 12 := hW.2.2.2.2.2.2.1
  intro k
  induction k with
  | zero =>
    intro i h
    have h : i = e := by omega
    subst h
    rw [q713_5, if_pos (by rw [am_leN (by omega) (by omega)]; exact Nat.le_refl _), q713_30]
  | succ k ih =>
    intro i h
    have ih := ih (i + 1) (by omega)
    rw [q713_5, if_neg (by rw [am_leN (by omega) (by omega)]; omega), w712 d hR hW (by omega) hw, am_bI_ret, q713_24, q713_24, am_cN, nI_add, nI_add]
    rw [ps_ua, ps_cnt] at ih
    cases hb : (ps_us S i).testBit w with
    | true =>
      rw [hb] at ih
      rw [if_neg (by decide)]
      exact ih
    | false =>
      rw [hb] at ih
      rw [if_pos (by decide)]
      exact ih
theorem w713 (d : Nat) (hR : ps_Rc 1 S μ) (hW : ps_Wf S) {w e : Nat} (hw : w < 32) (he : e ≤ S.n) : am_call (d + 3) 713 [.ref 1, .int (nI w), .int (nI e)] μ = am_ret (some (.int (nI (ps_ua S w e)))) μ := by
  rw [e713, q713_0]
  exact w713_5 d hR hW hw he e 0 (by omega)
theorem w714_2 (d : Nat) (hR : ps_Rc 1 S μ) (hW : ps_Wf S) {w : Nat} (hw : w < 32) : ∀ k i, i + k = S.n → am_ev (am_call (d + 2)) 714 2 [.ref 1, .int (nI w), .int (nI i)] [] μ = am_ret (some (.int (ps_ff (fun e => (ps_us S e).testBit w) i k))) μ := by
  have hn : S.n ≤ 12 := hW.2.2.2.2.2.2.1
  have r8 : μ 1 7 = nI S.n := hR.2.2.2.2.2.2.2.1
  intro k
  induction k with
  | zero =>
    intro i h
    rw [q714_2, r8, if_pos (by rw [am_leN (by omega) (by omega)]; omega), q714_27]
    rfl
  | succ k ih =>
    intro i h
    have ih := ih (i + 1) (by omega)
    rw [q714_2, r8, if_neg (by rw [am_leN (by omega) (by omega)]; omega), w712 d hR hW (by omega) hw, am_bI_ret, q714_21, am_cN, nI_add, ps_ff]
    cases hb : (ps_us S i).testBit w with
    | true => rw [if_neg (by decide), if_pos rfl]
    | false =>
      rw [if_pos (by decide), if_neg (by simp)]
      exact ih
theorem w714 (d : Nat) (hR : ps_Rc 1 S μ) (hW : ps_Wf S) {w : Nat} (hw : w < 32) : am_call (d + 3) 714 [.ref 1, .int (nI w)] μ = am_ret (some (.int (ps_led S w))) μ := by
  rw [e714, q714_0]
  exact w714_2 d hR hW hw S.n 0 (by omega)
theorem v1044 (d : Nat) (hR : ps_Rm 57 S μ) (hW : ps_Wf S) {e : Nat} (he : e < S.n) : am_call (d + 2) 1044 [.ref 56, .int (nI e)] μ = am_ret (some (.int (nI (ps_us S e)))) μ := by
  obtain ⟨a1, a2, a3, a4, a5, a6, a7, -, -⟩ := hW.e he
  obtain ⟨r1, r2, r3, r4, r5, r6, r7, r8, r9, r10, r11, r12, r13⟩ := hR
  exact m1044 d a3 (r10 e he) a6 (fun i hi => r11 e i he hi) (fun i hi => by have := a7 i hi; omega)
theorem v1046_5 (d : Nat) (hR : ps_Rm 57 S μ) (hW : ps_Wf S) {w e : Nat} (hw : w < 32) (he : e ≤ S.n) : ∀ k i, i + k = e → am_ev (am_call (d + 2)) 1046 5 [.ref 56, .int (nI w), .int (nI e), .int (nI (ps_ua S w i)), .int (nI i)] [] μ = am_ret (some (.int (nI (ps_ua S w e)))) μ := by
  have hn : S.n ≤ 12 := hW.2.2.2.2.2.2.1
  intro k
  induction k with
  | zero =>
    intro i h
    have h : i = e := by omega
    subst h
    rw [q1046_5, if_pos (by rw [am_leN (by omega) (by omega)]; exact Nat.le_refl _), q1046_30]
  | succ k ih =>
    intro i h
    have ih := ih (i + 1) (by omega)
    have hb := (hW.e (e := i) (by omega)).2.2.2.2.2.2.2.2
    rw [q1046_5, if_neg (by rw [am_leN (by omega) (by omega)]; omega), v1044 d hR hW (by omega), am_bI_ret, am_cN, am_bit hw (by omega), nI_add, nI_add]
    exact ih
theorem v1046 (d : Nat) (hR : ps_Rm 57 S μ) (hW : ps_Wf S) {w e : Nat} (hw : w < 32) (he : e ≤ S.n) : am_call (d + 3) 1046 [.ref 56, .int (nI w), .int (nI e)] μ = am_ret (some (.int (nI (ps_ua S w e)))) μ := by
  rw [e1046, q1046_0]
  exact v1046_5 d hR hW hw he e 0 (by omega)
theorem v1053_2 (d : Nat) (hR : ps_Rm 57 S μ) (hW : ps_Wf S) {w : Nat} (hw : w < 32) : ∀ k i, i + k = S.n → am_ev (am_call (d + 2)) 1053 2 [.ref 56, .int (nI w), .int (nI i)] [] μ = am_ret (some (.int (ps_ff (fun e => (ps_us S e).testBit w) i k))) μ := by
  have hn : S.n ≤ 12 := hW.2.2.2.2.2.2.1
  have r8 : μ 57 1 = nI S.n := hR.2.2.2.2.2.2.2.1
  intro k
  induction k with
  | zero =>
    intro i h
    rw [q1053_2, r8, if_pos (by rw [am_leN (by omega) (by omega)]; omega), q1053_33]
    rfl
  | succ k ih =>
    intro i h
    have ih := ih (i + 1) (by omega)
    have hb := (hW.e (e := i) (by omega)).2.2.2.2.2.2.2.2
    rw [q1053_2, r8, if_neg (by rw [am_leN (by omega) (by omega)]; omega), v1044 d hR hW (by omega), am_bI_ret, am_cN, am_bit hw (by omega), q1053_27, am_cN, nI_add, ps_ff]
    cases hb : (ps_us S i).testBit w with
    | true => rw [if_pos (by decide), if_pos rfl]
    | false =>
      rw [if_neg (by decide), if_neg (by simp)]
      exact ih
theorem v1053 (d : Nat) (hR : ps_Rm 57 S μ) (hW : ps_Wf S) {w : Nat} (hw : w < 32) : am_call (d + 3) 1053 [.ref 56, .int (nI w)] μ = am_ret (some (.int (ps_led S w))) μ := by
  rw [e1053, q1053_0]
  exact v1053_2 d hR hW hw S.n 0 (by omega)
end Wrap
