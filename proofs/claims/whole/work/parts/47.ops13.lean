variable {bG : Nat}
/-! feed -/
theorem ps_shb (x : Int32) {k : Nat} (hk : k ≤ 24) : (x >>> (nI k &&& 31)) &&& nI 255 = nI (am_ix x / 2 ^ k % 256) := by
  apply Int32.toBitVec_inj.1
  show x.toBitVec.sshiftRight ((nI k &&& 31).toBitVec.smod 32).toNat &&& BitVec.ofNat 32 (2 ^ 8 - 1) = BitVec.ofNat 32 (x.toBitVec.toNat / 2 ^ k % 2 ^ 8)
  rw [am_sl k (by omega)]
  apply BitVec.eq_of_getLsbD_eq
  intro i hi
  rw [BitVec.getLsbD_and, BitVec.getLsbD_sshiftRight, BitVec.getLsbD_ofNat, BitVec.getLsbD_ofNat, Nat.testBit_two_pow_sub_one, Nat.testBit_mod_two_pow, Nat.testBit_div_two_pow]
  by_cases h8 : i < 8
  · rw [if_pos (by omega), Nat.add_comm k i]
    simp [h8]
    rw [decide_eq_false (by omega), decide_eq_true hi, Bool.and_true]
    rfl
  · simp [h8]
theorem ps_shbC (x : Int32) {k : Nat} (hk : k ≤ 24) : (x >>> (nI k &&& 31)).toInt8.toInt32 = ps_by (am_ix x / 2 ^ k % 256) := by
  rw [ps_by, ← ps_shb x hk]
  congr 1
  apply Int8.toBitVec_inj.1
  show ((x >>> (nI k &&& 31)).toBitVec).signExtend 8 = ((x >>> (nI k &&& 31)).toBitVec &&& BitVec.ofNat 32 (2 ^ 8 - 1)).signExtend 8
  apply BitVec.eq_of_getLsbD_eq
  intro i hi
  rw [BitVec.getLsbD_signExtend, BitVec.getLsbD_signExtend, BitVec.getLsbD_and, BitVec.getLsbD_ofNat, Nat.testBit_two_pow_sub_one, if_pos (by omega), if_pos (by omega)]
  simp [hi]
  intro _
  omega
theorem ps_by8 (z : Int32) : am_nar 1 z.toInt8.toInt32 = z.toInt8.toInt32 := pk_vb z
def ps_ar (a b c d e : Int32) (k : Nat) : Int32 := if k < 4 then a else if k < 8 then b else if k < 12 then c else if k < 16 then d else e
def ps_fb (a b c d e : Int32) (k : Nat) : Nat := am_ix (ps_ar a b c d e k) / 2 ^ (24 - 8 * (k % 4)) % 256
def ps_O.tap (O : ps_O) (n : Nat) (tp : Nat → Nat) : ps_O := (O.S, n, tp, O.fk, O.fp, O.past, O.img)
def ps_feed (O : ps_O) (a b c d e : Int32) : Int32 × ps_O := if O.tl + 20 ≤ 400 then (nI (O.tl + 20), O.tap (O.tl + 20) (fun i => if O.tl ≤ i ∧ i < O.tl + 20 then ps_fb a b c d e (i - O.tl) else O.tp i)) else (am_c (-1), O)
theorem W_feed (O : ps_O) (hO : ps_Ow O) (a b c d e : Int32) : ps_Ow (ps_feed O a b c d e).2 := by
  unfold ps_feed
  by_cases h : O.tl + 20 ≤ 400
  · rw [if_pos h]
    obtain ⟨o1, o2, o3, o4, o5, o6, o7, o8⟩ := hO
    refine ⟨o1, o2, h, fun i hi => ?_, o5, o6, o7, o8⟩
    have hi : i < O.tl + 20 := hi
    show (if O.tl ≤ i ∧ i < O.tl + 20 then ps_fb a b c d e (i - O.tl) else O.tp i) < 256
    by_cases hc : O.tl ≤ i ∧ i < O.tl + 20
    · rw [if_pos hc]; exact Nat.mod_lt _ (by omega)
    · rw [if_neg hc]; exact o4 i (by omega)
  · rw [if_neg h]; exact hO
theorem ps_Ic.tap {O : ps_O} {μ μ' : am_Mem} (h : ps_Ic bG O μ) {n : Nat} {tp : Nat → Nat} (h4 : μ' 0 4 = nI n) (e0 : ∀ i, i ≠ 4 → μ' 0 i = μ 0 i) (ht : ∀ i, i < n → μ' 25 i = ps_by (tp i)) (eK : ∀ K, K ≠ 0 → K ≠ 25 → μ' K = μ K) : ps_Ic bG (O.tap n tp) μ' := by
  obtain ⟨i1, i2, ⟨i3, i3'⟩, i4, i5, i9, i10, i11⟩ := h
  refine ⟨i1.off (fun k hk => eK _ (by omega) (by omega)), i2.off (eK _ (by omega) (by omega)) (eK _ (by omega) (by omega)) (eK _ (by omega) (by omega)) (eK _ (by omega) (by omega)), ⟨h4, ht⟩, ?_, ?_, fun hn => by rw [e0 2 (by omega)]; exact i9 hn, fun S' hS => ?_, ?_⟩
  · rw [eK 26 (by omega) (by omega)]; exact i4
  · rw [eK 37 (by omega) (by omega), eK 38 (by omega) (by omega), eK 39 (by omega) (by omega), eK 40 (by omega) (by omega)]; exact i5
  · obtain ⟨a1, a2, a3⟩ := i10 S' hS
    exact ⟨by rw [e0 2 (by omega)]; exact a1, a2.off (fun k hk => eK _ (by omega) (by omega)), a3.off (eK _ (by omega) (by omega)) (eK _ (by omega) (by omega)) (eK _ (by omega) (by omega)) (eK _ (by omega) (by omega))⟩
  · rw [eK 48 (by omega) (by omega), eK 55 (by omega) (by omega)]; exact i11
theorem ps_Im.tap {O : ps_O} {μ μ' : am_Mem} (h : ps_Im O μ) {n : Nat} {tp : Nat → Nat} (h4 : μ' 56 13 = nI n) (e0 : ∀ i, i ≠ 13 → μ' 56 i = μ 56 i) (ht : ∀ i, i < n → μ' 63 i = nI (tp i)) (eK : ∀ K, K ≠ 56 → K ≠ 63 → μ' K = μ K) : ps_Im (O.tap n tp) μ' := by
  obtain ⟨i1, i2, ⟨i3, i3'⟩, i4, i5, i9, i10⟩ := h
  refine ⟨i1.off (eK _ (by omega) (by omega)), i2.off (eK _ (by omega) (by omega)), ⟨h4, ht⟩, ?_, ?_, fun hn => by rw [e0 4 (by omega)]; exact i9 hn, fun S' hS => ?_⟩
  · rw [e0 20 (by omega), e0 22 (by omega)]; exact i4
  · rw [e0 3 (by omega), eK 59 (by omega) (by omega)]; exact i5
  · obtain ⟨a1, a2, a3⟩ := i10 S' hS
    exact ⟨by rw [e0 4 (by omega)]; exact a1, a2.off (eK _ (by omega) (by omega)), a3.off (eK _ (by omega) (by omega))⟩
/-- n bytes g from t on, in the cell T, its length at L of K0 -/
def ps_tc (K0 L T : Nat) (by' : Nat → Int32) (t : Nat) (g : Nat → Nat) (n : Nat) (μ μ' : am_Mem) : Prop := μ' K0 L = nI (t + n) ∧ (∀ i, i ≠ L → μ' K0 i = μ K0 i) ∧ (∀ i, μ' T i = if t ≤ i ∧ i < t + n then by' (g (i - t)) else μ T i) ∧ ∀ K, K ≠ K0 → K ≠ T → μ' K = μ K
theorem ps_tc.z {K0 L T t : Nat} {by' : Nat → Int32} {g : Nat → Nat} {μ : am_Mem} (h : μ K0 L = nI t) : ps_tc K0 L T by' t g 0 μ μ := ⟨h, fun _ _ => rfl, fun i => by rw [if_neg (by omega)], fun _ _ _ => rfl⟩
theorem ps_tc.s {K0 L T t n : Nat} {by' : Nat → Int32} {g : Nat → Nat} {μ μ1 : am_Mem} (h : ps_tc K0 L T by' t g n μ μ1) (hT : T ≠ K0) : ps_tc K0 L T by' t g (n + 1) μ (am_up (am_up μ1 T (t + n) (by' (g n))) K0 L (nI (t + n + 1))) := by
  obtain ⟨a1, a2, a3, a4⟩ := h
  refine ⟨by rw [am_upS]; rfl, fun i hi => by rw [am_upI hi, am_upK (Ne.symm hT)]; exact a2 i hi, fun i => ?_, fun K h1 h2 => by rw [am_up_ne h1, am_up_ne h2]; exact a4 K h1 h2⟩
  rw [am_upK hT]
  by_cases hi : i = t + n
  · subst hi
    rw [am_upS, if_pos (by omega), Nat.add_sub_cancel_left]
  · rw [am_upI hi, a3]
    by_cases hc : t ≤ i ∧ i < t + n
    · rw [if_pos hc, if_pos (by omega)]
    · rw [if_neg hc, if_neg (by omega)]
theorem c933 (d : Nat) {x : Int32} {t n : Nat} {g : Nat → Nat} {μ μ1 : am_Mem} (h : ps_tc 0 4 25 ps_by t g n μ μ1) (ht : t + n + 4 ≤ 400) (hg : ∀ k, k < 4 → g (n + k) = am_ix x / 2 ^ (24 - 8 * k) % 256) : ∃ μ', am_call (d + 1) 933 [.ref 0, .int x] μ1 = am_ret none μ' ∧ ps_tc 0 4 25 ps_by t g (n + 4) μ μ' := by
  have st : ∀ (k s : Nat) (μ2 : am_Mem), s = 24 - 8 * k → k < 4 → ps_tc 0 4 25 ps_by t g (n + k) μ μ2 → ∃ μ3, am_ev (am_call d) 933 3 [.ref 0, .int x, .int (nI s)] [] μ2 = am_ev (am_call d) 933 3 [.ref 0, .int x, .int (nI s + am_c (-8))] [] μ3 ∧ ps_tc 0 4 25 ps_by t g (n + k + 1) μ μ3 := by
    intro k s μ2 hs hk h2
    have e4 : μ2 0 4 = nI (t + (n + k)) := h2.1
    refine ⟨_, ?_, h2.s (by omega)⟩
    rw [q933_3, if_neg (nI_pos (by omega)), e4, if_neg (by rw [show (400 : Int32) = nI 400 from rfl, am_leN (by omega) (by omega)]; omega), am_ixN (by omega), am_gbI (by omega), ps_by8, ps_shbC x (by omega), am_upK (by omega), e4, am_cN, nI_add, hs, ← hg k hk]
  rw [e933, q933_0]
  obtain ⟨m1, g1, k1⟩ := st 0 24 μ1 rfl (by omega) h
  obtain ⟨m2, g2, k2⟩ := st 1 16 m1 rfl (by omega) k1
  obtain ⟨m3, g3, k3⟩ := st 2 8 m2 rfl (by omega) k2
  obtain ⟨m4, g4, k4⟩ := st 3 0 m3 rfl (by omega) k3
  refine ⟨m4, ?_, k4⟩
  rw [show am_c 24 = nI 24 from rfl, g1, show nI 24 + am_c (-8) = nI 16 by decide, g2, show nI 16 + am_c (-8) = nI 8 by decide, g3, show nI 8 + am_c (-8) = nI 0 by decide, g4, q933_3, if_pos (by decide), q933_48]
theorem C_feed (d : Nat) (O : ps_O) (hO : ps_Ow O) (a b c e f : Int32) : ps_sC bG (d + 2) 907 [.ref 0, .int a, .int b, .int c, .int e, .int f] O (some (.int (ps_feed O a b c e f).1)) (ps_feed O a b c e f).2 := by
  intro μ h
  have i3 : μ 0 4 = nI O.tl := h.2.2.1.1
  have i3' := h.2.2.1.2
  have ht : O.tl ≤ 400 := hO.2.2.1
  rw [e907, q907_0, i3, ps_feed]
  by_cases hc : O.tl + 20 ≤ 400
  · rw [if_pos (by rw [am_cN, am_cN, nI_add, am_leN (by omega) (by omega)]; exact hc), if_pos hc, q907_15]
    have z : ps_tc 0 4 25 ps_by O.tl (ps_fb a b c e f) 0 μ μ := ps_tc.z i3
    obtain ⟨m1, g1, k1⟩ := c933 d (x := a) z (by omega) (fun k hk => by rw [ps_fb, ps_ar, if_pos (by omega), show (0 + k) % 4 = k by omega])
    obtain ⟨m2, g2, k2⟩ := c933 d (x := b) k1 (by omega) (fun k hk => by rw [ps_fb, ps_ar, if_neg (by omega), if_pos (by omega), show (0 + 4 + k) % 4 = k by omega])
    obtain ⟨m3, g3, k3⟩ := c933 d (x := c) k2 (by omega) (fun k hk => by rw [ps_fb, ps_ar, if_neg (by omega), if_neg (by omega), if_pos (by omega), show (0 + 4 + 4 + k) % 4 = k by omega])
    obtain ⟨m4, g4, k4⟩ := c933 d (x := e) k3 (by omega) (fun k hk => by rw [ps_fb, ps_ar, if_neg (by omega), if_neg (by omega), if_neg (by omega), if_pos (by omega), show (0 + 4 + 4 + 4 + k) % 4 = k by omega])
    obtain ⟨m5, g5, k5⟩ := c933 d (x := f) k4 (by omega) (fun k hk => by rw [ps_fb, ps_ar, if_neg (by omega), if_neg (by omega), if_neg (by omega), if_neg (by omega), show (0 + 4 + 4 + 4 + 4 + k) % 4 = k by omega])
    rw [g1, am_bV_ret, g2, am_bV_ret, g3, am_bV_ret, g4, am_bV_ret, g5, am_bV_ret]
    obtain ⟨a1, a2, a3, a4⟩ := k5
    refine ⟨m5, by rw [a1], h.tap a1 a2 (fun i hi => ?_) a4, fun K hK => a4 K (by omega) (by omega)⟩
    rw [a3]
    by_cases hc : O.tl ≤ i ∧ i < O.tl + 20
    · rw [if_pos hc, if_pos hc]
    · rw [if_neg hc, if_neg hc]; exact i3' i (by omega)
  · rw [if_neg (by rw [am_cN, am_cN, nI_add, am_leN (by omega) (by omega)]; exact hc), if_neg hc]
    exact ⟨μ, rfl, h, ps_kC.rf⟩
theorem ps_k4 : ∀ k, k < 20 → am_c 24 - am_c 8 * (nI k - nI k / am_c 4 * am_c 4) = nI (24 - 8 * (k % 4)) := by decide +kernel
theorem m1018_18 (d : Nat) {a b c e f : Int32} {t : Nat} {μ : am_Mem} (ht : t + 20 ≤ 400) : ∀ i k (μ1 : am_Mem) (v : Value), k + i = 20 → ps_tc 56 13 63 nI t (ps_fb a b c e f) k μ μ1 → ∃ μ', am_ev (am_call d) 1018 18 [.ref 56, .int a, .int b, .int c, .int e, .int f, .int (nI k), v] [] μ1 = am_ret (some (.int (nI (t + 20)))) μ' ∧ ps_tc 56 13 63 nI t (ps_fb a b c e f) 20 μ μ' := by
  intro i
  induction i with
  | zero =>
    intro k μ1 v hk h
    have hk : k = 20 := hk
    subst hk
    rw [q1018_18, if_pos (by decide), q1018_115, h.1]
    exact ⟨μ1, rfl, h⟩
  | succ i ih =>
    intro k μ1 v hk h
    have st : ∀ s : Int32, s = ps_ar a b c e f k → am_ev (am_call d) 1018 71 [.ref 56, .int a, .int b, .int c, .int e, .int f, .int (nI k), v] [.int s] μ1 = am_ev (am_call d) 1018 18 [.ref 56, .int a, .int b, .int c, .int e, .int f, .int (nI (k + 1)), .int s] [] (am_up (am_up μ1 63 (t + k) (nI (ps_fb a b c e f k))) 56 13 (nI (t + k + 1))) := by
      intro s hs
      have e1 : μ1 56 13 = nI (t + k) := h.1
      rw [q1018_71, e1, am_ixN (by omega), am_gbI (by omega), ps_k4 k (by omega), show am_c 255 = nI 255 from rfl, ps_shb s (by omega), am_upK (by omega), e1, am_cN, nI_add, nI_add, ps_fb, ← hs]
    have sel : am_ev (am_call d) 1018 18 [.ref 56, .int a, .int b, .int c, .int e, .int f, .int (nI k), v] [] μ1 = am_ev (am_call d) 1018 71 [.ref 56, .int a, .int b, .int c, .int e, .int f, .int (nI k), v] [.int (ps_ar a b c e f k)] μ1 := by
      rw [q1018_18, q1018_35, q1018_46, q1018_57, q1018_69, if_neg (by rw [am_cN, am_leN (by omega) (by omega)]; omega), ps_ar]
      by_cases h4 : k < 4
      · rw [if_neg (by rw [am_cN, am_leN (by omega) (by omega)]; omega), if_pos h4]
      rw [if_pos (by rw [am_cN, am_leN (by omega) (by omega)]; omega), if_neg h4]
      by_cases h8 : k < 8
      · rw [if_neg (by rw [am_cN, am_leN (by omega) (by omega)]; omega), if_pos h8]
      rw [if_pos (by rw [am_cN, am_leN (by omega) (by omega)]; omega), if_neg h8]
      by_cases h12 : k < 12
      · rw [if_neg (by rw [am_cN, am_leN (by omega) (by omega)]; omega), if_pos h12]
      rw [if_pos (by rw [am_cN, am_leN (by omega) (by omega)]; omega), if_neg h12]
      by_cases h16 : k < 16
      · rw [if_neg (by rw [am_cN, am_leN (by omega) (by omega)]; omega), if_pos h16]
      rw [if_pos (by rw [am_cN, am_leN (by omega) (by omega)]; omega), if_neg h16]
    rw [sel, st _ rfl]
    exact ih (k + 1) _ _ (by omega) (h.s (by omega))
theorem M_feed (d : Nat) (O : ps_O) (hO : ps_Ow O) (a b c e f : Int32) : ps_sM (d + 1) 1018 [.ref 56, .int a, .int b, .int c, .int e, .int f] O (some (.int (ps_feed O a b c e f).1)) (ps_feed O a b c e f).2 := by
  intro μ h
  have i3 : μ 56 13 = nI O.tl := h.2.2.1.1
  have i3' := h.2.2.1.2
  have ht : O.tl ≤ 400 := hO.2.2.1
  rw [e1018, q1018_0, i3, ps_feed]
  by_cases hc : O.tl + 20 ≤ 400
  · rw [if_pos (by rw [am_cN, am_cN, nI_add, am_leN (by omega) (by omega)]; exact hc), if_pos hc, q1018_15]
    obtain ⟨m5, g1, a1, a2, a3, a4⟩ := m1018_18 d (a := a) (b := b) (c := c) (e := e) (f := f) (t := O.tl) (μ := μ) hc 20 0 μ .null rfl (ps_tc.z i3)
    rw [show am_c 0 = nI 0 from rfl, g1]
    refine ⟨m5, rfl, h.tap a1 a2 (fun i hi => ?_) a4, fun K hK => a4 K (by omega) (by omega)⟩
    rw [a3]
    by_cases hc : O.tl ≤ i ∧ i < O.tl + 20
    · rw [if_pos hc, if_pos hc]
    · rw [if_neg hc, if_neg hc]; exact i3' i (by omega)
  · rw [if_neg (by rw [am_cN, am_cN, nI_add, am_leN (by omega) (by omega)]; exact hc), if_neg hc]
    exact ⟨μ, rfl, h, ps_kM.rf⟩
