variable {bG : Nat}
/-! public methods, first part -/
def ps_kC (μ μ' : am_Mem) : Prop := ∀ K, 56 ≤ K → μ' K = μ K
def ps_kM (μ μ' : am_Mem) : Prop := ∀ K, K < 56 ∨ 73 ≤ K → μ' K = μ K
def ps_sC (bG d M : Nat) (a : am_V) (O : ps_O) (r : Option Value) (O' : ps_O) : Prop := ∀ μ, ps_Ic bG O μ → ∃ μ', am_call d M a μ = am_ret r μ' ∧ ps_Ic bG O' μ' ∧ ps_kC μ μ'
def ps_sM (d M : Nat) (a : am_V) (O : ps_O) (r : Option Value) (O' : ps_O) : Prop := ∀ μ, ps_Im O μ → ∃ μ', am_call d M a μ = am_ret r μ' ∧ ps_Im O' μ' ∧ ps_kM μ μ'
theorem ps_kC.rf {μ : am_Mem} : ps_kC μ μ := fun _ _ => rfl
theorem ps_kM.rf {μ : am_Mem} : ps_kM μ μ := fun _ _ => rfl
theorem ps_kC.tr {μ μ1 μ2 : am_Mem} (h : ps_kC μ μ1) (h' : ps_kC μ1 μ2) : ps_kC μ μ2 := fun K hK => (h' K hK).trans (h K hK)
theorem ps_kM.tr {μ μ1 μ2 : am_Mem} (h : ps_kM μ μ1) (h' : ps_kM μ1 μ2) : ps_kM μ μ2 := fun K hK => (h' K hK).trans (h K hK)
theorem ps_kC.up {μ μ1 : am_Mem} (h : ps_kC μ μ1) {K i : Nat} {x : Int32} (hK : K < 56) : ps_kC μ (am_up μ1 K i x) := fun K' hK' => by
  rw [am_up_ne (by omega)]
  exact h K' hK'
theorem ps_kM.up {μ μ1 : am_Mem} (h : ps_kM μ μ1) {K i : Nat} {x : Int32} (h1 : 56 ≤ K) (h2 : K < 73) : ps_kM μ (am_up μ1 K i x) := fun K' hK' => by
  rw [am_up_ne (by omega)]
  exact h K' hK'
theorem ps_kC.off {l : List Nat} {μ μ1 : am_Mem} (h : ps_off l μ μ1) (hl : l.all (fun K => Nat.blt K 56) = true) : ps_kC μ μ1 := fun K hK => h K (fun z => by
  have := Nat.le_of_ble_eq_true (List.all_eq_true.mp hl K z)
  omega)
theorem ps_kM.off {l : List Nat} {μ μ1 : am_Mem} (h : ps_off l μ μ1) (hl : l.all (fun K => Nat.ble 56 K && Nat.blt K 73) = true) : ps_kM μ μ1 := fun K hK => h K (fun z => by
  have h1 := Bool.and_eq_true_iff.mp (List.all_eq_true.mp hl K z)
  have := Nat.le_of_ble_eq_true h1.1
  have := Nat.le_of_ble_eq_true h1.2
  omega)
/-- the object with another dictionary, and nothing to undo -/
def ps_O.fg (O : ps_O) (S : ps_S) : ps_O := (S, O.tl, O.tp, O.fk, O.fp, [], O.img)
theorem ps_Ic.fg {O : ps_O} {μ μ' : am_Mem} (h : ps_Ic bG O μ) {S : ps_S} (hR : ps_Rc 1 S μ') (hlaw : S.law = O.S.law) (e : ∀ K, K ≠ 1 → K ≠ 2 → K ≠ 3 → K ≠ 4 → K ≠ 5 → K ≠ 6 → K ≠ 37 → μ' K = μ K) (h4 : μ' 37 4 = nI 0) (h3 : μ' 37 3 = μ 37 3) : ps_Ic bG (O.fg S) μ' := by
  obtain ⟨-, i2, ⟨i3, i3'⟩, ⟨i4, i4'⟩, ⟨-, nw, i6, i7, -⟩, i9, i10, sp, i11, i12, i13⟩ := h
  have ee : ∀ K, 7 ≤ K → K ≠ 37 → μ' K = μ K := fun K h1 h2 => e K (by omega) (by omega) (by omega) (by omega) (by omega) (by omega) h2
  have e0 : μ' 0 = μ 0 := e 0 (by omega) (by omega) (by omega) (by omega) (by omega) (by omega) (by omega)
  refine ⟨hR, ?_, ⟨by rw [e0]; exact i3, fun i hi => by rw [ee 25 (by omega) (by omega)]; exact i3' i hi⟩, ⟨by rw [ee 26 (by omega) (by omega)]; exact i4, by rw [ee 26 (by omega) (by omega)]; exact i4'⟩, ⟨h4, nw, i6, by rw [h3]; exact i7, fun j p hp => by have hp : ([] : List ps_P)[j]? = some p := hp; simp at hp⟩, fun hn => by rw [e0]; exact i9 hn, fun S' hS => ?_, sp, i11, by rw [ee 48 (by omega) (by omega)]; exact i12, fun i hi => by rw [ee 55 (by omega) (by omega)]; exact i13 i hi⟩
  · show ps_Lc 7 S.law μ'
    rw [hlaw]
    exact i2.off (ee 7 (by omega) (by omega)) (ee 8 (by omega) (by omega)) (ee 9 (by omega) (by omega)) (ee 10 (by omega) (by omega))
  · obtain ⟨a1, a2, a3⟩ := i10 S' hS
    exact ⟨by rw [e0]; exact a1, a2.off (fun k hk => ee _ (by omega) (by omega)), a3.off (ee 19 (by omega) (by omega)) (ee 20 (by omega) (by omega)) (ee 21 (by omega) (by omega)) (ee 22 (by omega) (by omega))⟩
theorem ps_Im.fg {O : ps_O} {μ μ' : am_Mem} (h : ps_Im O μ) {S : ps_S} (hR : ps_Rm 57 S μ') (hlaw : S.law = O.S.law) (hl : ∀ i, 435 ≤ i → μ' 57 i = μ 57 i) (e : ∀ K, K ≠ 56 → K ≠ 57 → μ' K = μ K) (h3 : μ' 56 3 = nI 0) (e56 : ∀ i, i ≠ 3 → μ' 56 i = μ 56 i) : ps_Im (O.fg S) μ' := by
  obtain ⟨-, i2, ⟨i3, i3'⟩, ⟨i4, i4'⟩, -, i9, i10⟩ := h
  refine ⟨hR, ?_, ⟨by rw [e56 13 (by omega)]; exact i3, fun i hi => by rw [e 63 (by omega) (by omega)]; exact i3' i hi⟩, ⟨by rw [e56 20 (by omega)]; exact i4, by rw [e56 22 (by omega)]; exact i4'⟩, ⟨h3, fun j p hp => by have hp : ([] : List ps_P)[j]? = some p := hp; simp at hp⟩, fun hn => by rw [e56 4 (by omega)]; exact i9 hn, fun S' hS => ?_⟩
  · show ps_Lm 57 S.law μ'
    rw [hlaw]
    refine ⟨by rw [hl 435 (by omega)]; exact i2.1, fun l q hq => ?_⟩
    obtain ⟨a1, a2, a3, a4⟩ := i2.2 l q hq
    exact ⟨by rw [hl _ (by omega)]; exact a1, by rw [hl _ (by omega)]; exact a2, by rw [hl _ (by omega)]; exact a3, fun j q' hj => by rw [hl _ (by omega), hl _ (by omega)]; exact a4 j q' hj⟩
  · obtain ⟨a1, a2, a3⟩ := i10 S' hS
    exact ⟨by rw [e56 4 (by omega)]; exact a1, a2.off (e 58 (by omega) (by omega)), a3.off (e 58 (by omega) (by omega))⟩
theorem c401 (d : Nat) (μ : am_Mem) : am_call (d + 1) 401 [.ref 37] μ = am_ret none (am_up μ 37 4 (am_c 0)) := by rw [e401, q401_0]
theorem m1008 (d : Nat) (μ : am_Mem) : am_call (d + 1) 1008 [.ref 56] μ = am_ret none (am_up μ 56 3 (am_c 0)) := by rw [e1008, q1008_0]
/-! state -/
def ps_state (O : ps_O) (v : Int32) : ps_O := O.fg (O.S.w, O.S.mk, O.S.kn, O.S.lim, O.S.chg, O.S.ed, v, O.S.n, O.S.hd, O.S.ct, O.S.us, O.S.bn, O.S.bk, O.S.law)
theorem C_state (d : Nat) (O : ps_O) (v : Int32) : ps_sC bG (d + 2) 901 [.ref 0, .int v] O (some (.int O.S.sta)) (ps_state O v) := by
  intro μ h
  obtain ⟨r1, r2, r3, r4, r5, r6, r7, r8, r9, r10, r11, r12, r13⟩ := id h.1
  have r7 : μ 1 0 = O.S.sta := r7
  refine ⟨_, by rw [e901, q901_0, c401, am_bV_ret, r7], h.fg ?_ rfl (fun K h1 _ _ _ _ _ h7 => by rw [am_up_ne h7, am_up_ne h1]) (by rw [am_upS]; rfl) (by rw [am_upI (by omega), am_upK (by omega)]), ps_kC.up (ps_kC.up ps_kC.rf (by omega)) (by omega)⟩
  refine ⟨?_, ?_, ?_, ?_, ?_, ?_, ?_, ?_, ?_, ?_, ?_, ?_, ?_⟩
  all_goals first
    | (rw [am_upK (by omega), am_upI (by omega)]; assumption)
    | (rw [am_upK (by omega), am_upS])
    | (intro k hk; rw [am_upK (by omega), am_upK (by omega)]; first | exact r2 k hk | exact r9 k hk | exact r10 k hk)
    | (intro k i hk hi; rw [am_upK (by omega), am_upK (by omega)]; first | exact r11 k i hk hi | exact r13 k i hk hi)
theorem M_state (d : Nat) (O : ps_O) (hO : ps_Ow O) (v : Int32) : ps_sM (d + 2) 1009 [.ref 56, .int v] O (some (.int O.S.sta)) (ps_state O v) := by
  intro μ h
  obtain ⟨r1, r2, r3, r4, r5, r6, r7, r8, r9, r10, r11, r12, r13⟩ := id h.1
  have w1 : O.S.w ≤ 16 := hO.1.1
  have w7 : O.S.n ≤ 12 := hO.1.2.2.2.2.2.2.1
  have w9 : O.S.bn ≤ 80 := hO.1.2.2.2.2.2.2.2.2.1
  refine ⟨_, by rw [e1009, q1009_0, m1008, am_bV_ret, r7], h.fg ?_ rfl (fun i hi => by rw [am_upK (by omega), am_upI (by omega)]) (fun K h1 h2 => by rw [am_up_ne h1, am_up_ne h2]) (by rw [am_upS]; rfl) (fun i hi => by rw [am_upI hi, am_upK (by omega)]), ps_kM.up (ps_kM.up ps_kM.rf (by omega) (by omega)) (by omega) (by omega)⟩
  refine ⟨?_, ?_, ?_, ?_, ?_, ?_, ?_, ?_, ?_, ?_, ?_, ?_, ?_⟩
  all_goals first
    | (rw [am_upK (by omega), am_upI (by omega)]; assumption)
    | (rw [am_upK (by omega), am_upS])
    | (intro k hk; rw [am_upK (by omega), am_upI (by omega)]; first | exact r2 k hk | exact r3 k hk | exact r9 k hk | exact r10 k hk)
    | (intro k i hk hi; rw [am_upK (by omega), am_upI (by omega)]; first | exact r11 k i hk hi | exact r13 k i hk hi)
