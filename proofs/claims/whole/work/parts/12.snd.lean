/-! the abstract machine is the machine: instruction by instruction -/
def am_Lok1 (q : (Nat × List Nat) ⊕ (Nat × Nat)) : Bool := match q with
  | .inl q => match vwCl[q.1]? with
    | some r => Nat.beq r.2.2 q.2.length && (List.range q.2.length).all (fun k => match q.2[k]? with
      | some 0 => !(r.2.1 k).2.2.2 && decide (parseFieldDescriptor (r.2.1 k).2.2.1 = some .int)
      | some 1 => !(r.2.1 k).2.2.2 && decide (parseFieldDescriptor (r.2.1 k).2.2.1 = some .boolean)
      | _ => true)
    | none => false
  | .inr q => Nat.blt q.1 3 && Nat.ble q.2 200000
theorem am_L_all : am_L.all am_Lok1 = true := by decide +kernel
theorem am_L_len : am_L.length = 73 := by decide +kernel
theorem am_L_lt {K : Nat} {q : (Nat × List Nat) ⊕ (Nat × Nat)} (h : am_L[K]? = some q) : K < 73 := by
  have := (List.getElem?_eq_some_iff.mp h).1
  rwa [am_L_len] at this
theorem am_L_obj {K ci : Nat} {fs : List Nat} (h : am_L[K]? = some (.inl (ci, fs))) : ∃ r, vwCl[ci]? = some r ∧ r.2.2 = fs.length ∧ ∀ k, (fs[k]? = some 0 → (r.2.1 k).2.2.2 = false ∧ parseFieldDescriptor (r.2.1 k).2.2.1 = some .int) ∧ (fs[k]? = some 1 → (r.2.1 k).2.2.2 = false ∧ parseFieldDescriptor (r.2.1 k).2.2.1 = some .boolean) := by
  have h1 := List.all_eq_true.mp am_L_all _ (List.mem_of_getElem? h)
  rw [am_Lok1] at h1
  cases hr : vwCl[ci]? with
  | none => rw [hr] at h1; cases h1
  | some r =>
    rw [hr] at h1
    obtain ⟨h2, h3⟩ := Bool.and_eq_true_iff.mp h1
    refine ⟨r, rfl, Nat.eq_of_beq_eq_true h2, fun k => ?_⟩
    constructor
    · intro hk
      have h4 := List.all_eq_true.mp h3 k (List.mem_range.mpr (List.getElem?_eq_some_iff.mp hk).1)
      simp only [] at h4
      rw [hk] at h4
      obtain ⟨h5, h6⟩ := Bool.and_eq_true_iff.mp h4
      exact ⟨by simpa using h5, of_decide_eq_true h6⟩
    · intro hk
      have h4 := List.all_eq_true.mp h3 k (List.mem_range.mpr (List.getElem?_eq_some_iff.mp hk).1)
      simp only [] at h4
      rw [hk] at h4
      obtain ⟨h5, h6⟩ := Bool.and_eq_true_iff.mp h4
      exact ⟨by simpa using h5, of_decide_eq_true h6⟩
theorem am_L_arr {K t n : Nat} (h : am_L[K]? = some (.inr (t, n))) : t < 3 ∧ n ≤ 200000 := by
  have h1 := List.all_eq_true.mp am_L_all _ (List.mem_of_getElem? h)
  rw [am_Lok1] at h1
  obtain ⟨h2, h3⟩ := Bool.and_eq_true_iff.mp h1
  exact ⟨Nat.lt_of_succ_le (Nat.le_of_ble_eq_true h2), Nat.le_of_ble_eq_true h3⟩
theorem am_cls {ci : Nat} {r : vw_C} (h : vwCl[ci]? = some r) : ∃ ty0 : Nat → FieldType, (∀ k, k < r.2.2 → parseFieldDescriptor (r.2.1 k).2.2.1 = some (ty0 k)) ∧ ∀ a, a < r.2.2 → ∀ b, b < r.2.2 → a ≠ b → (r.2.1 a).2.1 ≠ (r.2.1 b).2.1 := by
  match ci, h with
  | 0, h => cases h; exact ⟨tyX0, tyX0_ok, nmX0⟩
  | 1, h => cases h; exact ⟨tyX1, tyX1_ok, nmX1⟩
  | 2, h => cases h; exact ⟨tyX2, tyX2_ok, nmX2⟩
  | 3, h => cases h; exact ⟨tyX3, tyX3_ok, nmX3⟩
  | 4, h => cases h; exact ⟨tyX4, tyX4_ok, nmX4⟩
  | 5, h => cases h; exact ⟨tyX5, tyX5_ok, nmX5⟩
  | 6, h => cases h; exact ⟨tyX6, tyX6_ok, nmX6⟩
  | 7, h => cases h; exact ⟨tyX7, tyX7_ok, nmX7⟩
  | 8, h => cases h; exact ⟨tyX8, tyX8_ok, nmX8⟩
  | 9, h => cases h; exact ⟨tyX9, tyX9_ok, nmX9⟩
  | 10, h => cases h; exact ⟨tyX10, tyX10_ok, nmX10⟩
  | k + 11, h => simp at h
theorem am_cq_of {ci : Nat} {r : vw_C} (h : vwCl[ci]? = some r) : am_cq ci = r := by
  simp only [am_cq, List.getD_eq_getElem?_getD, h]
  rfl
theorem am_b01 {x : Int32} (h : Nat.blt (am_ix x) 2 = true) : x = 0 ∨ x = 1 := by
  have h1 : am_ix x < 2 := Nat.lt_of_succ_le (Nat.le_of_ble_eq_true h)
  have e : x = Int32.ofNat (am_ix x) := by
    obtain ⟨⟨b⟩⟩ := x
    have h0 : BitVec.ofNat 32 b.toNat = b := by simp
    show (⟨⟨b⟩⟩ : Int32) = ⟨⟨BitVec.ofNat 32 b.toNat⟩⟩
    rw [h0]
  rcases (show am_ix x = 0 ∨ am_ix x = 1 by omega) with h2 | h2
  · left; rw [e, h2]; rfl
  · right; rw [e, h2]; rfl
theorem am_ix_pos {x : Int32} (h : (!(Nat.beq (am_ix x) 0)) = true) : ¬ x = 0 := by
  rintro rfl
  revert h
  decide
theorem am_to_eq {pc : Nat} {off : Int} (h : 0 ≤ (pc : Int) + off) : (pc : Int) + off = (am_to pc off : Nat) := (Int.toNat_of_nonneg h).symm
def am_Fx (p : Program) (s : State) (m : MethodId) (args : Array Value) (c : Code) (cc : ByteArray) (nL own : Nat) (A : Nat → Prop) (G : am_G) : Prop :=
  p.tables.exec = Jvm.exec ∧ c.code = cc ∧ c.maxLocals = nL ∧ s.vm.findClass (am_cn own) = some m.cls ∧ (∀ w ∈ am_T0, w.before args s = true) ∧ am_Kw G A s s.heap ∧ (∀ q, am_Aw G q → A q)
section Snd
variable {p : Program} {l : Launch} {e : Env} {R : Room} {s : State} {m : MethodId} {args : Array Value} {below : List Frame} {meth : Method} {c : Code} {cells slots : Nat} {Q : State → Prop} {A : Nat → Prop} {G : am_G} {nL own : Nat} {cc : ByteArray}
def am_Wc (p : Program) (l : Launch) (e : Env) (R : Room) (s : State) (m : MethodId) (args : Array Value) (below : List Frame) (meth : Method) (c : Code) (cells slots : Nat) (Q : State → Prop) (A : Nat → Prop) (G : am_G) (nL : Nat) (pc : Nat) (ls st : am_V) (μ : am_Mem) : Prop :=
  ∀ (H : Heap) (locs : List Loc) (lsC : Array Slot), am_Wd G μ H → va_S A s.heap H locs → am_lr G nL ls lsC → W p l e R s m args below meth c H locs cells slots Q (F0 m pc lsC (st.map G.cv))
theorem am_Wd.D {μ : am_Mem} (hF : am_Kw G A s s.heap) : va_D A (am_ws G.ad G.cA μ) := by
  obtain ⟨-, -, -, -, -, -, -, h8, h9, -⟩ := hF
  exact am_ws_D μ h8 h9
theorem am_Wd.fld {μ : am_Mem} {K ci k : Nat} {fs : List Nat} {x : Int32} {H1 : Heap} (h : am_L[K]? = some (.inl (ci, fs))) (hf : fs[k]? = some 0 ∨ fs[k]? = some 1) (h9 : μ 999 = G.xs ∧ μ 998 0 = Int32.ofNat G.L) (hP : va_P G.D vwCl ((am_ws G.ad G.cA μ).set K (G.ad K, .inr (ci, (fs.mapIdx (am_fv G.ad (μ K))).set k (.int x)))) H1) : am_Wd G (am_up μ K k x) H1 := by
  have hl := am_L_lt h
  refine ⟨by rw [am_ws_fld h hf]; exact hP, ?_, ?_⟩
  · rw [am_up_ne (by omega)]; exact h9.1
  · rw [am_up_ne (by omega)]; exact h9.2
theorem am_Wd.arr {μ μ' : am_Mem} {K : Nat} {q : Nat × Nat} {f : Nat → Int32} {H1 : Heap} (h : am_L[K]? = some (.inr q)) (hne : ∀ K', K' ≠ K → μ' K' = μ K') (hf : μ' K = f) (h9 : μ 999 = G.xs ∧ μ 998 0 = Int32.ofNat G.L) (hP : va_P G.D vwCl ((am_ws G.ad G.cA μ).set K (G.ad K, .inl (G.cA q.1, q.2, .inl f))) H1) : am_Wd G μ' H1 := by
  have hl := am_L_lt h
  refine ⟨by rw [am_ws_arr h hne, hf]; exact hP, ?_, ?_⟩
  · rw [hne _ (by omega)]; exact h9.1
  · rw [hne _ (by omega)]; exact h9.2
theorem am_s_get {pc idx : Nat} {v : Value} {k : Value → am_R} {ls st : am_V} {μ : am_Mem} {μ' : am_Mem} {r : Option Value} (F : am_Fx p s m args c cc nL own A G) (hd : decode cc pc = .ok (.getfield idx, 3)) (h : am_getf own idx v μ k μ' r)
    (kk : ∀ w, k w μ' r → am_Wc p l e R s m args below meth c cells slots Q A G nL (pc + 3) ls (w :: st) μ) : am_Wc p l e R s m args below meth c cells slots Q A G nL pc ls (v :: st) μ := by
  intro H locs lsC hW hS hl
  obtain ⟨hx, hb, hml, hown, hts, hK, hAw⟩ := F
  obtain ⟨k1, k2, k3, k4, -⟩ := id hK
  unfold am_getf at h
  split at h
  · rename_i K
    obtain ⟨q, hq, h⟩ := am_fl.o h
    obtain ⟨fs, hL, h⟩ := am_obj.o h
    obtain ⟨r1, hr1, hr2, -⟩ := am_L_obj hL
    have hT : am_T q.1 q.2 = r1.2.1 q.2 := by rw [am_T, am_cq_of hr1]
    obtain ⟨w, hw, hk⟩ : ∃ w, (fs.mapIdx (am_fv G.ad (μ K)))[q.2]? = some (G.cv w) ∧ k w μ' r := by
      cases h0 : fs[q.2]? with
      | none => rw [h0] at h; exact h.elim
      | some z =>
        rw [h0] at h
        match z, h0, h with
        | 0, h0, h => exact ⟨_, by rw [List.getElem?_mapIdx, h0]; rfl, h⟩
        | 1, h0, h => exact ⟨_, by rw [List.getElem?_mapIdx, h0]; rfl, h⟩
        | j + 2, h0, h => exact ⟨.ref j, by rw [List.getElem?_mapIdx, h0]; rfl, h⟩
    have hlt : q.2 < r1.2.2 := by
      have := (List.getElem?_eq_some_iff.mp hw).1
      rw [hr2]
      simpa using this
    have kk2 := kk w hk H locs lsC hW hS hl
    rcases hq with hq | hq
    · have hlk := am_w_fld hq
      rw [hT] at hlk
      exact va_get (D := G.D) (cl := vwCl) (C := r1.1) (T := r1.2.1) (N := r1.2.2) hx hb hts (am_w_lay hr1) hown k1 hW.1 K (am_ws_at hL) hr1 q.2 hlt (hts _ hlk) (fun _ h => h) hw hd kk2
    · have hlk := am_w_nst hq
      rw [hT] at hlk
      exact va_getN (D := G.D) (cl := vwCl) (C := r1.1) (T := r1.2.1) (N := r1.2.2) hx hb hts (am_w_lay hr1) hown k1 hW.1 K (am_ws_at hL) hr1 q.2 hlt (va_Nw.use rfl (k2 _ hlk)) (fun _ h => h) hw hd kk2
  · rename_i i
    obtain ⟨h1, hh1⟩ := am_gb.o h
    obtain ⟨h2, hh⟩ := am_gb.o hh1
    clear h hh1
    have hi : i < 13 := Nat.lt_of_succ_le (Nat.le_of_ble_eq_true h1)
    have ho := Nat.eq_of_beq_eq_true h2
    subst ho
    cases h3 : Nat.beq idx 9 with
    | true =>
      rw [h3] at hh
      have h : k (.float (UInt32.ofNat i)) μ' r := hh
      have hx3 := Nat.eq_of_beq_eq_true h3
      subst hx3
      have e : (UInt32.ofNat i).toNat = i := by
        rw [UInt32.toNat_ofNat']
        omega
      have kk2 := kk _ h H locs lsC hW hS hl
      have e2 : G.cv (.float (UInt32.ofNat i)) = .ref (G.aV i) := by
        show Value.ref (G.aV (UInt32.ofNat i).toNat) = _
        rw [e]
      rw [List.map_cons, e2] at kk2
      exact vk_getf hx hb (k4.1 i hi).2.2.1 hS hown (hts (.fieldLink RJ0 9 "java/lang/String" "value" "[B") (am_w_six (by simp [am_w6]))) (fun _ h => h) hd kk2
    | false =>
      rw [h3] at hh
      cases h4 : Nat.beq idx 15 with
      | true =>
        rw [h4] at hh
        have h : k (.int 0) μ' r := hh
        have hx3 := Nat.eq_of_beq_eq_true h4
        subst hx3
        exact vk_getf hx hb (k4.1 i hi).2.1 hS hown (hts (.fieldLink RJ0 15 "java/lang/String" "coder" "B") (am_w_six (by simp [am_w6]))) (fun _ h => h) hd (kk _ h H locs lsC hW hS hl)
      | false =>
        rw [h4] at hh
        exact hh.elim
  · exact h.elim
theorem am_s_put {pc idx K : Nat} {x : Int32} {k : am_Mem → am_R} {ls st : am_V} {μ : am_Mem} {μ' : am_Mem} {r : Option Value} (F : am_Fx p s m args c cc nL own A G) (hd : decode cc pc = .ok (.putfield idx, 3)) (h : am_putf own idx K x μ k μ' r)
    (kk : ∀ μ1, k μ1 μ' r → am_Wc p l e R s m args below meth c cells slots Q A G nL (pc + 3) ls st μ1) : am_Wc p l e R s m args below meth c cells slots Q A G nL pc ls (.int x :: .ref K :: st) μ := by
  intro H locs lsC hW hS hl
  obtain ⟨hx, hb, hml, hown, hts, hK, hAw⟩ := F
  obtain ⟨k1, k2, k3, k4, -⟩ := id hK
  have hD := am_Wd.D (G := G) (μ := μ) hK
  unfold am_putf at h
  obtain ⟨q, hq, h⟩ := am_fl.o h
  obtain ⟨fs, hL, h⟩ := am_obj.o h
  obtain ⟨r1, hr1, hr2, hr3⟩ := am_L_obj hL
  obtain ⟨ty0, hty, hnm⟩ := am_cls hr1
  have hT : am_T q.1 q.2 = r1.2.1 q.2 := by rw [am_T, am_cq_of hr1]
  obtain ⟨ty, hfin, hdt, hn, hfit, hf, hk⟩ : ∃ ty, (r1.2.1 q.2).2.2.2 = false ∧ parseFieldDescriptor (r1.2.1 q.2).2.2.1 = some ty ∧ narrow ty (.int x) = .int x ∧ fits ty (.int x) = true ∧ (fs[q.2]? = some 0 ∨ fs[q.2]? = some 1) ∧ k (am_up μ K q.2 x) μ' r := by
    cases h0 : fs[q.2]? with
    | none => rw [h0] at h; exact h.elim
    | some z =>
      rw [h0] at h
      match z, h0, h with
      | 0, h0, h => exact ⟨.int, ((hr3 q.2).1 h0).1, ((hr3 q.2).1 h0).2, rfl, rfl, Or.inl rfl, h⟩
      | 1, h0, h =>
        obtain ⟨h1, hh⟩ := am_gb.o h
        refine ⟨.boolean, ((hr3 q.2).2 h0).1, ((hr3 q.2).2 h0).2, ?_, ?_, Or.inr rfl, hh⟩
        · rcases am_b01 h1 with rfl | rfl <;> rfl
        · rcases am_b01 h1 with rfl | rfl <;> rfl
      | j + 2, h0, h => exact h.elim
  have hlt : q.2 < r1.2.2 := by
    rw [hr2]
    rcases hf with hf | hf <;> exact (List.getElem?_eq_some_iff.mp hf).1
  have hlen : q.2 < (fs.mapIdx (am_fv G.ad (μ K))).length := by
    rw [List.length_mapIdx, ← hr2]
    exact hlt
  rcases hq with hq | hq
  · have hlk := am_w_fld hq
    rw [hT] at hlk
    exact va_put (D := G.D) (cl := vwCl) (C := r1.1) (T := r1.2.1) (N := r1.2.2) hx hb hts (am_w_lay hr1) ty0 hty hnm hown k1 hW.1 hD hS K (am_ws_at hL) hr1 q.2 hlt (hts _ hlk) (fun _ h => h) hfin hdt hn hfit hlen hd
      (fun H1 locs1 hP1 _ hS1 => kk _ hk H1 locs1 lsC (am_Wd.fld hL hf hW.2 hP1) hS1 hl)
  · have hlk := am_w_nst hq
    rw [hT] at hlk
    exact va_putN (D := G.D) (cl := vwCl) (C := r1.1) (T := r1.2.1) (N := r1.2.2) hx hb hts (am_w_lay hr1) ty0 hty hnm hown k1 hW.1 hD hS K (am_ws_at hL) hr1 q.2 hlt (va_Nw.use rfl (k2 _ hlk)) (fun _ h => h) hfin hdt hn hfit hlen hd
      (fun H1 locs1 hP1 _ hS1 => kk _ hk H1 locs1 lsC (am_Wd.fld hL hf hW.2 hP1) hS1 hl)
end Snd
