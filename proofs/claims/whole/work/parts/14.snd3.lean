/-! calls -/
def am_MTok (q : Nat × MethodName × ByteArray × Nat × Option FieldType × Nat × Bool) : Bool := decide (q.2.1.cls = am_cn (q.1 / 100)) && decide (q.2.1.cls ≠ "java/lang/invoke/MethodHandle") && decide (q.2.1.cls ≠ "java/lang/invoke/VarHandle") && decide ((parseMethodDescriptor q.2.1.desc).map (fun d => d.parameters.length) = some q.2.2.2.2.2.1) && Nat.ble q.2.2.2.1 20 && plainName q.2.1.cls
set_option maxRecDepth 100000 in
theorem am_MT_all : am_MT.all am_MTok = true := by decide +kernel
def am_CTok (stc : Bool) (q : Nat × Nat × Nat × Nat) : Bool := match am_fa am_MT q.2.1 with
  | some m => (m.2.2.2.2.2 == stc) && Nat.beq q.2.2.1 (m.2.2.2.2.1 + (match stc with
    | true => 0
    | false => 1)) && !(Nat.ble 2000 q.2.1) && Nat.ble q.2.2.1 m.2.2.1
  | none => stc && (Nat.beq q.2.1 2004 || Nat.beq q.2.1 2001)
set_option maxRecDepth 100000 in
theorem am_CT_all : am_CT.all (fun c => c.2.all (am_CTok false)) = true := by decide +kernel
set_option maxRecDepth 100000 in
theorem am_CS_all : am_CS.all (fun c => c.2.all (am_CTok true)) = true := by decide +kernel
theorem am_CT_ok {c i : Nat} {q : Nat × Nat × Nat} (h : am_in2 am_CT c i q) : am_CTok false (i, q) = true := by
  obtain ⟨l, h1, h2⟩ := h
  exact List.all_eq_true.mp (List.all_eq_true.mp am_CT_all _ h1) _ h2
theorem am_CS_ok {c i : Nat} {q : Nat × Nat × Nat} (h : am_in2 am_CS c i q) : am_CTok true (i, q) = true := by
  obtain ⟨l, h1, h2⟩ := h
  exact List.all_eq_true.mp (List.all_eq_true.mp am_CS_all _ h1) _ h2
theorem am_MT_ok {y : Nat} {q : MethodName × ByteArray × Nat × Option FieldType × Nat × Bool} (h : am_fa am_MT y = some q) : q.1.cls = am_cn (y / 100) ∧ q.1.cls ≠ "java/lang/invoke/MethodHandle" ∧ q.1.cls ≠ "java/lang/invoke/VarHandle" ∧ (parseMethodDescriptor q.1.desc).map (fun d => d.parameters.length) = some q.2.2.2.2.1 ∧ q.2.2.1 ≤ 20 ∧ plainName q.1.cls = true := by
  have h1 := List.all_eq_true.mp am_MT_all _ (am_fa_mem h)
  simp only [am_MTok, Bool.and_eq_true, decide_eq_true_eq] at h1
  obtain ⟨⟨⟨⟨⟨a1, a2⟩, a3⟩, a4⟩, a5⟩, a6⟩ := h1
  exact ⟨a1, a2, a3, a4, Nat.le_of_ble_eq_true a5, a6⟩
theorem am_yn_of {y : Nat} {q : MethodName × ByteArray × Nat × Option FieldType × Nat × Bool} (h : am_fa am_MT y = some q) : am_yn y = q.1 ∧ am_cd y = q.2.1 ∧ am_mL y = q.2.2.1 ∧ am_rt y = q.2.2.2.1 := by
  simp only [am_yn, am_cd, am_mL, am_rt, h, and_self]
theorem am_MT_1100 : (am_fa am_MT 1100).isNone = true := by decide +kernel
def am_hC (l : Launch) (R : Room) (G : am_G) (C : am_Ct) : Prop := ∀ y a μ μ' r, C y a μ μ' r → (∃ d, d + 1 ≤ R.frames ∧ 40 * (d + 1) ≤ R.locals ∧ (Nat.ble 2000 y = false → y ≠ 1100 → a.length ≤ am_mL y → am_Con l G d y a μ μ' r)) ∧ (y = 2004 → am_copy a μ μ' r) ∧ (y = 2001 → am_max a μ μ' r)
section Snd3
variable {p : Program} {l : Launch} {e : Env} {R : Room} {s : State} {m : MethodId} {args : Array Value} {below : List Frame} {meth : Method} {c : Code} {cells slots : Nat} {Q : State → Prop} {A : Nat → Prop} {G : am_G} {nL own : Nat} {cc : ByteArray}
theorem am_back.o {kd : Nat} {R : am_R} {st : am_V} {k : am_V → am_Mem → am_R} {μ' : am_Mem} {r : Option Value} (h : am_back kd R st k μ' r) : ∃ rr μ1, R μ1 rr ∧ k (rr.toList ++ st) μ1 μ' r := by
  unfold am_back at h
  split at h
  · obtain ⟨μ1, h1, h2⟩ := h
    exact ⟨none, μ1, h1, h2⟩
  · obtain ⟨x, μ1, h1, h2⟩ := h
    exact ⟨_, μ1, h1, h2⟩
  · obtain ⟨x, μ1, h1, h2⟩ := h
    exact ⟨_, μ1, h1, h2⟩
theorem am_cats (hF : G.vF.category = 1) (st : am_V) : ((st.map G.cv).map fun v => v.category).sum = st.length := by
  induction st with
  | nil => rfl
  | cons v st ih =>
    simp only [List.map_cons, List.sum_cons, List.length_cons]
    rw [ih, am_cv_cat hF]
    omega
theorem am_copy.o {a : am_V} {μ μ1 : am_Mem} {rr : Option Value} (h : am_copy a μ μ1 rr) : ∃ K0 sp K1 dp n n0 n1, a = [.ref K0, .int sp, .ref K1, .int dp, .int n] ∧ am_L[K0]? = some (.inr (0, n0)) ∧ am_L[K1]? = some (.inr (0, n1)) ∧ am_ix sp + am_ix n ≤ n0 ∧ am_ix dp + am_ix n ≤ n1 ∧ rr = none ∧ μ1 = am_cp μ K0 K1 (am_ix sp) (am_ix dp) (am_ix n) := by
  unfold am_copy at h
  split at h
  · obtain ⟨n0, hL0, h2⟩ := am_arr.o h
    obtain ⟨n1, hL1, h3⟩ := am_arr.o h2
    obtain ⟨c1, h4⟩ := am_gb.o h3
    obtain ⟨c2, h5⟩ := am_gb.o h4
    exact ⟨_, _, _, _, _, n0, n1, rfl, hL0, hL1, Nat.le_of_ble_eq_true c1, Nat.le_of_ble_eq_true c2, h5.1, h5.2⟩
  · exact h.elim
theorem am_max.o {a : am_V} {μ μ1 : am_Mem} {rr : Option Value} (h : am_max a μ μ1 rr) : ∃ x y, a = [.int x, .int y] ∧ rr = some (.int (if x < y then y else x)) ∧ μ1 = μ := by
  unfold am_max at h
  split at h
  · exact ⟨_, _, rfl, h.1, h.2⟩
  · exact h.elim
/-- behind a call -/
theorem am_s_back {pc : Nat} {st : am_V} {μ1 : am_Mem} {rr : Option Value} {ls : am_V} {st0 : List Value} {av : Array Value} (F : am_Fx p s m args c cc nL own A G) {H : Heap} {locs : List Loc} {lsC : Array Slot} (hS : va_S A s.heap H locs) (hl : am_lr G nL ls lsC)
    (hr : va_Run p l e R s m args below meth c H locs cells slots 0 0 (F0 m pc lsC st0) (st.map G.cv) (am_Qc G rr μ1 av) (am_Aw G))
    (kk : am_Wc p l e R s m args below meth c cells slots Q A G nL (pc + 3) ls (rr.toList ++ st) μ1) : W p l e R s m args below meth c H locs cells slots Q (F0 m pc lsC st0) := by
  intro T hT X
  obtain ⟨v, st₀, t, T', L, h0, X', hL, e1, e2, ⟨hv, hw, hz, hk⟩, go⟩ := hr T hT X
  have hv : v = rr.map G.cv := by cases hv; rfl
  rw [h0] at hz hk
  have hAw := F.2.2.2.2.2.2
  have hS1 : va_S A s.heap T'.heap (locs ++ L) := ⟨Nat.le_trans hS.1 (by rw [e1]; exact hz), fun q h1 h2 => by
      rw [e1, hk q (Nat.lt_of_lt_of_le h1 hS.1) (fun z => h2 (hAw q z))]
      exact hS.2.1 q h1 h2, fun q hq => by
      rcases List.mem_append.mp hq with h | h
      · exact hS.2.2 q h
      · exact hAw _ (hL q h)⟩
  obtain ⟨t2, a1, b1⟩ := kk T'.heap (locs ++ L) lsC (by rw [e1]; exact hw) hS1 hl T' rfl X'
  refine ⟨t2, go t2 ?_, b1⟩
  have e9 : (rr.toList ++ st).map G.cv = v.toList ++ st.map G.cv := by
    rw [hv]
    cases rr <;> simp
  rw [e9] at a1
  exact a1
theorem am_s_callB {own idx y d : Nat} {q : MethodName × ByteArray × Nat × Option FieldType × Nat × Bool} (hts : ∀ w ∈ am_T0, w.before args s = true) (hq : am_fa am_MT y = some q) (hl : Cond.methodLink (am_cn own) idx (am_yn y) ∈ am_T0) (hd : d + 1 ≤ R.frames) (hd2 : 40 * (d + 1) ≤ R.locals) :
    CallB R s args (am_cn own) idx (am_yn y) (am_cd y) (am_mL y) (am_rt y) (am_wy y) (am_rm d) 0 0 q.2.2.2.2.1 := by
  obtain ⟨e1, e2, e3, e4⟩ := am_yn_of hq
  obtain ⟨o1, o2, o3, o4, o5, o6⟩ := am_MT_ok hq
  have hm := am_w_code (am_fa_mem hq)
  have hG : GoodIn am_T0 (am_wy y) := fun w hw => by
    rcases List.mem_cons.mp hw with rfl | hw
    · rw [e1, e2, e3, e4]
      exact am_T0_self _ hm.1
    · exact am_T0_self _ hw
  refine callB_of (Ts := am_T0) (ws' := am_T0) q.2.2.2.2.1 hts hG rfl rfl rfl (hts _ (by rw [e1]; exact hm.2)) (hts _ hl) ⟨by rw [e1]; exact o2, by rw [e1]; exact o3, by rw [e1]; exact o4⟩ ⟨hd, ?_⟩
  rw [e3]
  show 8 + (q.2.2.1 + 11) + 40 * d ≤ R.locals
  omega
theorem am_s_pre {a : am_V} {μ : am_Mem} (F : am_Fx p s m args c cc nL own A G) {H : Heap} {locs : List Loc} (hW : am_Wd G μ H) (hS : va_S A s.heap H locs) (U : State) (hU : U.heap = H) (hWm : s.WarmedH U.vm) : am_Pc G a μ (a.map G.cv).toArray U :=
  ⟨rfl, by rw [hU]; exact hW, am_Kw.go F.2.2.2.2.2.1 hS hWm hU F.2.2.2.2.2.2 (fun k hk => ⟨k, hk, rfl⟩)⟩
theorem am_s_stat {pc idx : Nat} {C : am_Ct} {k : am_V → am_Mem → am_R} {ls st : am_V} {μ : am_Mem} {μ' : am_Mem} {r : Option Value} (F : am_Fx p s m args c cc nL own A G) (hC : am_hC l R G C) (hcs : cells ≤ R.cells ∧ slots ≤ R.slots) (hd : decode cc pc = .ok (.invokestatic idx, 3)) (h : am_inv C own idx true st μ k μ' r)
    (kk : ∀ st μ1, k st μ1 μ' r → am_Wc p l e R s m args below meth c cells slots Q A G nL (pc + 3) ls st μ1) : am_Wc p l e R s m args below meth c cells slots Q A G nL pc ls st μ := by
  intro H locs lsC hW hS hl
  obtain ⟨hx, hb, hml, hown, hts, hK, hAw⟩ := id F
  have hF : G.vF.category = 1 := hK.2.2.2.2.2.2.1
  obtain ⟨q, hq, h⟩ := (am_lk2.o h).resolve_right (fun z => z.elim)
  obtain ⟨a, st', rfl, hlen, h⟩ := am_pop.o h
  obtain ⟨h8, h⟩ := am_gb.o h
  obtain ⟨rr, μ1, hc, hk⟩ := am_back.o h
  rw [List.append_nil] at hc
  have h8 : st'.length ≤ 8 := Nat.le_of_ble_eq_true h8
  have hok := am_CS_ok hq
  obtain ⟨⟨d, hd1, hd2, hcon⟩, hcp, hmx⟩ := hC _ _ _ _ _ hc
  unfold am_CTok at hok
  cases hm : am_fa am_MT q.1 with
  | some mm =>
    rw [hm] at hok
    simp only [Bool.and_eq_true, beq_iff_eq, Bool.not_eq_true'] at hok
    obtain ⟨⟨⟨g1, g2⟩, g3⟩, g4⟩ := hok
    have g5 : q.1 ≠ 1100 := fun h => by rw [h] at hm; have h0 := am_MT_1100; rw [hm] at h0; cases h0
    have g6 : a.length ≤ am_mL q.1 := by rw [hlen, (am_yn_of hm).2.2.1]; exact Nat.le_of_ble_eq_true g4
    have g2 : q.2.1 = mm.2.2.2.2.1 := Nat.eq_of_beq_eq_true g2
    have e1 := (am_yn_of hm).1
    have hstw : (Cond.static (am_yn q.1)).before args s = true := hts _ (by rw [e1]; exact am_w_stat (am_fa_mem hm) g1)
    refine am_s_back F hS hl (va_runS (As := a.map G.cv) (rest := st'.map G.cv) ⟨hx, hb, hml, hown, hts⟩ (hcon g3 g5 g6) ⟨am_s_callB hts hm (am_w_cals hq) hd1 hd2, hstw⟩ ⟨am_Pc.blind, fun U hU hWm => am_s_pre F hW hS U hU hWm⟩ rfl (by rw [List.length_map, hlen, g2]) hl.2.1 (by simp) (by rw [am_cats hF]; simpa using h8) hd ⟨by omega, by omega⟩) (kk _ _ hk)
  | none =>
    rw [hm] at hok
    simp only [Bool.true_and, Bool.or_eq_true] at hok
    rcases hok with hok | hok
    · have hy : q.1 = 2004 := Nat.eq_of_beq_eq_true hok
      obtain ⟨K0, sp, K1, dp, n, n0, n1, rfl, hL0, hL1, c1, c2, rfl, rfl⟩ := am_copy.o (hcp hy)
      have b0 := (am_L_arr hL0).2
      have b1 := (am_L_arr hL1).2
      have sm : ∀ z : Int32, am_ix z ≤ 200000 → ¬ z < 0 ∧ z.toNatClampNeg = am_ix z := by
        intro z hz
        obtain ⟨u1, u2⟩ := am_ixIn (i := z) (n := 200001) (by omega) (Nat.ble_eq_true_of_le (by omega))
        exact ⟨fun h => u1 (Or.inl h), u2⟩
      obtain ⟨s1, s2⟩ := sm sp (by omega)
      obtain ⟨s3, s4⟩ := sm dp (by omega)
      obtain ⟨s5, s6⟩ := sm n (by omega)
      have hD := am_Wd.D (G := G) (μ := μ) hK
      have hlk := am_w_cals hq
      rw [hy] at hlk
      have hst : (([.ref K0, .int sp, .ref K1, .int dp, .int n] : am_V).reverse ++ st').map G.cv = .int n :: .int dp :: .ref (G.ad K1) :: .int sp :: .ref (G.ad K0) :: st'.map G.cv := by simp [am_cv]
      rw [hst]
      refine va_copyi (D := G.D) (cl := vwCl) (tys := am_tys G.cA) (ty := .int) hx hb (by rw [hml]; exact hl.2.1.symm) hown (hts _ hlk) (hts _ (am_w_six (by simp [am_w6]))) (hts _ (am_w_six (by simp [am_w6]))) (hts _ (am_w_six (by simp [am_w6]))) hK.1 hW.1 hD hS K0 K1 0 0 (am_ws_at hL0) (am_ws_at hL1) rfl rfl rfl s1 s3 s5 (by rw [s2, s6]; exact c1) (by rw [s4, s6]; exact c2) (fun _ _ => rfl) (by omega) ?_ hd fun H1 locs1 hP1 _ hS1 => ?_
      · rw [am_cats hF]
        show st'.length + (7 + 11) ≤ R.locals
        omega
      · refine kk _ _ hk H1 locs1 lsC (am_Wd.arr hL1 (μ' := am_cp μ K0 K1 (am_ix sp) (am_ix dp) (am_ix n)) (fun K' h => by simp [am_cp, h]) ?_ hW.2 hP1) hS1 hl
        simp only [am_cp, if_pos]
        rw [s2, s4, s6]
    · have hy : q.1 = 2001 := Nat.eq_of_beq_eq_true hok
      obtain ⟨x, y, rfl, rfl, rfl⟩ := am_max.o (hmx hy)
      have hlk := am_w_cals hq
      rw [hy] at hlk
      have hst : (([.int x, .int y] : am_V).reverse ++ st').map G.cv = .int y :: .int x :: st'.map G.cv := by simp [am_cv]
      rw [hst]
      have hcd : Cond.code Lib.Math.max.name Lib.Math.max.code 2 (some .int) = Cond.code yJ9_max_7cf53 cJ9_max_7cf53 2 (some .int) := by decide +kernel
      refine va_mmax hx hb (by rw [hml]; exact hl.2.1.symm) hown (hts _ hlk) (hts (.static yJ9_max_7cf53) (am_w_six (by simp [am_w6]))) (hts (.initialized RJ9) (am_w_six (by simp [am_w6]))) (by rw [hcd]; exact hts _ (am_w_six (by simp [am_w6]))) (by omega) ?_ (by omega) (by omega) hd ?_
      · rw [am_cats hF]
        omega
      · exact kk _ _ hk H locs lsC hW hS hl
theorem am_s_virt {pc idx : Nat} {C : am_Ct} {k : am_V → am_Mem → am_R} {ls st : am_V} {μ : am_Mem} {μ' : am_Mem} {r : Option Value} (F : am_Fx p s m args c cc nL own A G) (hC : am_hC l R G C) (hcs : cells ≤ R.cells ∧ slots ≤ R.slots) (hd : decode cc pc = .ok (.invokevirtual idx, 3)) (h : am_inv C own idx false st μ k μ' r)
    (kk : ∀ st μ1, k st μ1 μ' r → am_Wc p l e R s m args below meth c cells slots Q A G nL (pc + 3) ls st μ1) : am_Wc p l e R s m args below meth c cells slots Q A G nL pc ls st μ := by
  intro H locs lsC hW hS hl
  obtain ⟨hx, hb, hml, hown, hts, hK, hAw⟩ := id F
  have hF : G.vF.category = 1 := hK.2.2.2.2.2.2.1
  obtain ⟨q, hq, h⟩ := (am_lk2.o h).resolve_right (fun z => z.elim)
  obtain ⟨a, st', rfl, hlen, h⟩ := am_pop.o h
  obtain ⟨h8, h⟩ := am_gb.o h
  have h8 : st'.length ≤ 8 := Nat.le_of_ble_eq_true h8
  have hok := am_CT_ok hq
  unfold am_CTok at hok
  cases hm : am_fa am_MT q.1 with
  | none => rw [hm] at hok; simp at hok
  | some mm =>
    rw [hm] at hok
    simp only [Bool.and_eq_true, beq_iff_eq, Bool.not_eq_true'] at hok
    obtain ⟨⟨⟨g1, g2⟩, g3⟩, g4⟩ := hok
    have g5 : q.1 ≠ 1100 := fun h => by rw [h] at hm; have h0 := am_MT_1100; rw [hm] at h0; cases h0
    have g6 : a.length ≤ am_mL q.1 := by rw [hlen, (am_yn_of hm).2.2.1]; exact Nat.le_of_ble_eq_true g4
    have g2 : q.2.1 = mm.2.2.2.2.1 + 1 := Nat.eq_of_beq_eq_true g2
    have e1 := (am_yn_of hm).1
    have o1 := (am_MT_ok hm).1
    rw [List.append_nil] at h
    -- the receiver
    obtain ⟨b, as, rr, μ1, ha, hrc, hc, hk⟩ : ∃ b as rr μ1, a.map G.cv = .ref b :: as ∧ (∃ cell : Cell, H[b]? = some cell ∧ cell.vm.isStatics = false ∧ s.vm.findClass (am_yn q.1).cls = some cell.cls) ∧ C q.1 a μ μ1 rr ∧ k (rr.toList ++ st') μ1 μ' r := by
      rw [e1, o1]
      cases a with
      | nil => exact h.elim
      | cons v as =>
        cases v with
        | ref K =>
          obtain ⟨fs, hL, h⟩ := am_obj.o h
          obtain ⟨r1, hr1, -, -⟩ := am_L_obj hL
          obtain ⟨rr, μ1, hc, hk⟩ := am_back.o h
          have hrv := va_recv hK.1 hW.1 hr1 (am_ws_at hL)
          have e5 : r1.1 = am_cn (q.1 / 100) := by
            have : ∀ ci r, vwCl[ci]? = some r → r.1 = am_cn ci := by
              intro ci r h
              match ci, h with
              | 0, h => cases h; rfl
              | 1, h => cases h; rfl
              | 2, h => cases h; rfl
              | 3, h => cases h; rfl
              | 4, h => cases h; rfl
              | 5, h => cases h; rfl
              | 6, h => cases h; rfl
              | 7, h => cases h; rfl
              | 8, h => cases h; rfl
              | 9, h => cases h; rfl
              | 10, h => cases h; rfl
              | k + 11, h => simp at h
            exact this _ _ hr1
          rw [e5] at hrv
          exact ⟨G.ad K, as.map G.cv, rr, μ1, rfl, hrv, hc, hk⟩
        | retAddr i =>
          obtain ⟨i1, h⟩ := am_gb.o h
          obtain ⟨i2, h⟩ := am_gb.o h
          obtain ⟨rr, μ1, hc, hk⟩ := am_back.o h
          have hi : i < 13 := Nat.lt_of_succ_le (Nat.le_of_ble_eq_true i1)
          have i2 := Nat.eq_of_beq_eq_true i2
          rw [i2]
          exact ⟨G.aK i, as.map G.cv, rr, μ1, rfl, vk_recv hK.2.2.2.1 hi hS, hc, hk⟩
        | _ => exact h.elim
    obtain ⟨⟨d, hd1, hd2, hcon⟩, -⟩ := hC _ _ _ _ _ hc
    have hw := am_w_inst (am_fa_mem hm) g1
    have hl1 : as.length = mm.2.2.2.2.1 := by
      have : (a.map G.cv).length = q.2.1 := by rw [List.length_map, hlen]
      rw [ha, g2, List.length_cons] at this
      omega
    have hstk : (a.reverse ++ st').map G.cv = as.reverse ++ .ref b :: st'.map G.cv := by
      rw [List.map_append, List.map_reverse, ha]
      simp
    rw [hstk]
    refine am_s_back F hS hl (va_runV (C := (am_yn q.1).cls) (As := as) (b := b) (rest := st'.map G.cv) ⟨hx, hb, hml, hown, hts⟩ (hcon g3 g5 g6) ⟨am_s_callB hts hm (am_w_call hq) hd1 hd2, hts _ (by rw [e1]; exact hw.1), hts _ (by rw [e1]; exact hw.2)⟩ ⟨am_Pc.blind, hrc, fun U hU hWm => ?_⟩ rfl hl1 hl.2.1 rfl (by rw [am_cats hF]; simpa using h8) hd ⟨by omega, by omega⟩) (kk _ _ hk)
    rw [← ha]
    exact am_s_pre F hW hS U hU hWm
end Snd3
