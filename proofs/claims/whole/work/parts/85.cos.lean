/-! constructors: the machine that makes cells is the machine -/
theorem co_blt {a b : Nat} (h : Nat.blt a b = true) : a < b := Nat.lt_of_succ_le (Nat.le_of_ble_eq_true h)
theorem co_v_cong {n : Nat} {ad ad' : Nat → Nat} (h : ∀ j, j < n → ad' j = ad j) {v : Value} (hv : co_lt n v = true) : co_v ad' v = co_v ad v := by
  cases v with
  | ref K => show Value.ref (ad' K) = .ref (ad K); rw [h K (co_blt hv)]
  | _ => rfl
theorem co_vs_cong {n : Nat} {ad ad' : Nat → Nat} (h : ∀ j, j < n → ad' j = ad j) {st : List Value} (hv : st.all (co_lt n) = true) : st.map (co_v ad') = st.map (co_v ad) :=
  List.map_congr_left (fun v hm => co_v_cong h (List.all_eq_true.mp hv v hm))
theorem co_e_cong {n : Nat} {ad ad' : Nat → Nat} {cA : Nat → ClassId} (h : ∀ j, j < n → ad' j = ad j) {q : co_C} (hq : co_lC n q = true) : co_e ad' cA q = co_e ad cA q := by
  cases q with
  | inl q => show Sum.inr (q.1, q.2.map (co_v ad')) = Sum.inr (q.1, q.2.map (co_v ad)); rw [co_vs_cong h hq]
  | inr q => rfl
theorem co_ws_at {ad : Nat → Nat} {cA : Nat → ClassId} {σ : List co_C} {K : Nat} {q : co_C} (h : σ[K]? = some q) : (co_ws ad cA σ)[K]? = some (ad K, co_e ad cA q) := by simp [co_ws, h]
theorem co_ws_set {ad : Nat → Nat} {cA : Nat → ClassId} {σ : List co_C} {K : Nat} {q : co_C} : co_ws ad cA (σ.set K q) = (co_ws ad cA σ).set K (ad K, co_e ad cA q) := List.mapIdx_set
def co_ax (ad : Nat → Nat) (n x : Nat) : Nat → Nat := fun j => if j = n then x else ad j
theorem co_ax_lt {ad : Nat → Nat} {n x j : Nat} (h : j < n) : co_ax ad n x j = ad j := if_neg (by omega)
theorem co_ax_eq {ad : Nat → Nat} {n x : Nat} : co_ax ad n x n = x := if_pos rfl
theorem co_ws_push {ad : Nat → Nat} {cA : Nat → ClassId} {σ : List co_C} {q : co_C} {x : Nat} (hσ : σ.all (co_lC σ.length) = true) (hq : co_lC σ.length q = true) : co_ws (co_ax ad σ.length x) cA (σ ++ [q]) = co_ws ad cA σ ++ [(x, co_e ad cA q)] := by
  have e1 : co_ws (co_ax ad σ.length x) cA σ = co_ws ad cA σ := by
    apply List.ext_getElem?
    intro j
    simp only [co_ws, List.getElem?_mapIdx]
    cases hj : σ[j]? with
    | none => rfl
    | some z =>
      have hlt := (List.getElem?_eq_some_iff.mp hj).1
      simp only [Option.map_some]
      rw [co_ax_lt hlt, co_e_cong (fun j h => co_ax_lt h) (List.all_eq_true.mp hσ z (List.mem_of_getElem? hj))]
  have e2 : co_ws (co_ax ad σ.length x) cA (σ ++ [q]) = co_ws (co_ax ad σ.length x) cA σ ++ [(co_ax ad σ.length x (0 + σ.length), co_e (co_ax ad σ.length x) cA q)] := by
    unfold co_ws
    rw [List.mapIdx_append]
    rfl
  rw [e2, e1, Nat.zero_add, co_ax_eq, co_e_cong (fun j h => co_ax_lt h) hq]
theorem co_lt_df (n : Nat) (t : FieldType) : co_lt n (defaultValue t) = true := by cases t <;> rfl
theorem co_v_df (ad : Nat → Nat) (t : FieldType) : co_v ad (defaultValue t) = defaultValue t := by cases t <;> rfl
theorem co_df_lC (n ci : Nat) : co_lC n (.inl (ci, co_df ci)) = true := by
  show (co_df ci).all (co_lt n) = true
  refine List.all_eq_true.mpr (fun v hv => ?_)
  obtain ⟨j, -, rfl⟩ := List.mem_map.mp hv
  exact co_lt_df n _
theorem co_df_map (ad : Nat → Nat) (ci : Nat) : (co_df ci).map (co_v ad) = co_df ci := by
  unfold co_df
  rw [List.map_map]
  exact List.map_congr_left (fun j _ => co_v_df ad _)
theorem co_df_at {ci j : Nat} (h : j < co_nN ci) : defaultValue (co_ty ci j) = vp_V (co_df ci) j := by
  simp [vp_V, co_df, List.getD_eq_getElem?_getD, h]
theorem co_fit_ok {ty : FieldType} {v : Value} (h : co_fit ty v = true) (ad : Nat → Nat) : narrow ty (co_v ad v) = co_v ad v ∧ fits ty (co_v ad v) = true := by
  cases v with
  | int x =>
    cases ty with
    | int => exact ⟨rfl, rfl⟩
    | boolean =>
      have h1 : (x == 0 || x == 1) = true := h
      rcases Bool.or_eq_true_iff.mp h1 with h2 | h2
      · rw [eq_of_beq h2]; exact ⟨rfl, rfl⟩
      · rw [eq_of_beq h2]; exact ⟨rfl, rfl⟩
    | _ => cases h
  | ref K =>
    cases ty with
    | object _ => exact ⟨rfl, rfl⟩
    | array _ => exact ⟨rfl, rfl⟩
    | _ => cases h
  | _ => cases h
theorem co_F_own : co_F.all (fun q => decide ((am_T q.1 q.2.2).1 = am_cn q.1) && Nat.blt q.1 11) = true := by decide +kernel
theorem co_cats (st : List Value) (h : st.length ≤ 3) : (st.map fun v => v.category).sum ≤ 8 := by
  have : ∀ st : List Value, (st.map fun v => v.category).sum ≤ 2 * st.length := by
    intro st
    induction st with
    | nil => exact Nat.le_refl _
    | cons v st ih =>
      have hv : v.category ≤ 2 := by cases v <;> simp [Value.category]
      simp only [List.map_cons, List.sum_cons, List.length_cons]
      omega
  have := this st
  omega
theorem co_names {y : Nat} (h : y < 11) : plainName (co_y y).cls = true ∧ ((co_y y).cls ≠ "java/lang/invoke/MethodHandle" ∧ (co_y y).cls ≠ "java/lang/invoke/VarHandle" ∧ (parseMethodDescriptor (co_y y).desc).map (fun d => d.parameters.length) = some 0) := by
  have : ([0, 1, 2, 3, 4, 5, 6, 7, 8, 9, 10].all (fun y => plainName (co_y y).cls && (decide ((co_y y).cls ≠ "java/lang/invoke/MethodHandle") && (decide ((co_y y).cls ≠ "java/lang/invoke/VarHandle") && decide ((parseMethodDescriptor (co_y y).desc).map (fun d => d.parameters.length) = some 0))))) = true := by decide +kernel
  have h2 := List.all_eq_true.mp this y (by
    rcases (show y = 0 ∨ y = 1 ∨ y = 2 ∨ y = 3 ∨ y = 4 ∨ y = 5 ∨ y = 6 ∨ y = 7 ∨ y = 8 ∨ y = 9 ∨ y = 10 by omega) with rfl | rfl | rfl | rfl | rfl | rfl | rfl | rfl | rfl | rfl | rfl <;> decide)
  simp only [Bool.and_eq_true, decide_eq_true_eq] at h2
  exact h2
def co_rm (d y : Nat) : Room := { frames := d, cells := co_mc y, slots := co_ms y, locals := 40 * d }
def co_Pc (D : va_G) (cA : Nat → ClassId) (ad : Nat → Nat) (σ : List co_C) (K sz : Nat) : Array Value → State → Prop := va_Pc [.ref (ad K)] (fun U => U.heap.size = sz ∧ va_P D vwCl (co_ws ad cA σ) U.heap ∧ va_K D vwCl (am_tys cA) U ∧ va_D (fun _ => True) (co_ws ad cA σ) ∧ va_Nw co_nw U)
def co_Qc (D : va_G) (cA : Nat → ClassId) (ad : Nat → Nat) (σ σ' : List co_C) (sz : Nat) : Array Value → State → Outcome → State → Prop := va_Qv (fun ad' : Nat → Nat => ∀ j, j < σ.length → ad' j = ad j) (fun ad' t => va_P D vwCl (co_ws ad' cA σ') t.heap ∧ va_D (va_A (co_ws ad cA σ) sz) (co_ws ad' cA σ')) (va_A (co_ws ad cA σ) sz)
def co_Con (l : Launch) (D : va_G) (cA : Nat → ClassId) (d y K : Nat) (ad : Nat → Nat) (σ σ' : List co_C) (sz : Nat) : Prop := Met l (co_y y) (co_wy y) (co_rm d y) (co_Pc D cA ad σ K sz) (co_Qc D cA ad σ σ' sz) (co_mc y) (co_ms y) (va_A (co_ws ad cA σ) sz)
def co_hC (l : Launch) (R : Room) (D : va_G) (cA : Nat → ClassId) (Cl : co_Ct) : Prop := ∃ d, d + 1 ≤ R.frames ∧ 40 * (d + 1) ≤ R.locals ∧ ∀ y σ K σ', Cl y σ K = some σ' → y < 11 → ∀ ad sz, co_Con l D cA d y K ad σ σ' sz
def co_Fx (p : Program) (s : State) (m : MethodId) (args : Array Value) (c : Code) (cc : ByteArray) (nL own : Nat) (A : Nat → Prop) (D : va_G) (cA : Nat → ClassId) : Prop :=
  p.tables.exec = Jvm.exec ∧ c.code = cc ∧ c.maxLocals = nL ∧ s.vm.findClass (am_cn own) = some m.cls ∧ (∀ w ∈ co_T, w.before args s = true) ∧ va_K D vwCl (am_tys cA) s ∧ va_Nw co_nw s ∧ ∀ q, s.heap.size ≤ q → A q
def co_Wd (s : State) (A : Nat → Prop) (D : va_G) (cA : Nat → ClassId) (σ : List co_C) (ad : Nat → Nat) (H : Heap) (locs : List Loc) : Prop := va_P D vwCl (co_ws ad cA σ) H ∧ va_D A (co_ws ad cA σ) ∧ va_S A s.heap H locs
section Cos
variable {p : Program} {l : Launch} {e : Env} {R : Room} {s : State} {m : MethodId} {args : Array Value} {below : List Frame} {meth : Method} {c : Code} {Q : State → Prop} {A : Nat → Prop} {D : va_G} {cA : Nat → ClassId} {nL own pc : Nat} {cc : ByteArray} {ls : Array Slot} {ad : Nat → Nat} {H : Heap} {locs : List Loc} {X X1 : co_St}
/-- the step goes on at n bytes behind -/
def co_go (p : Program) (l : Launch) (e : Env) (R : Room) (s : State) (m : MethodId) (args : Array Value) (below : List Frame) (meth : Method) (c : Code) (Q : State → Prop) (A : Nat → Prop) (D : va_G) (cA : Nat → ClassId) (pc : Nat) (ls : Array Slot) (ad : Nat → Nat) (n0 : Nat) (X1 : co_St) : Prop :=
  ∀ (ad1 : Nat → Nat) (H1 : Heap) (locs1 : List Loc), co_Wd s A D cA X1.1 ad1 H1 locs1 → (∀ j, j < n0 → ad1 j = ad j) → n0 ≤ X1.1.length → W p l e R s m args below meth c H1 locs1 X1.2.2.1 X1.2.2.2 Q (F0 m pc ls (X1.2.1.map (co_v ad1)))
theorem co_s_new {idx : Nat} (F : co_Fx p s m args c cc nL own A D cA) (h : co_new own R.cells R.slots idx X = some X1) (hd : decode cc pc = .ok (.new idx, 3)) (hW : co_Wd s A D cA X.1 ad H locs) (kk : co_go p l e R s m args below meth c Q A D cA (pc + 3) ls ad X.1.length X1) : W p l e R s m args below meth c H locs X.2.2.1 X.2.2.2 Q (F0 m pc ls (X.2.1.map (co_v ad))) := by
  obtain ⟨hx, hb, hml, hown, hts, hK, hNw, hA⟩ := F
  obtain ⟨hP, hD, hS⟩ := hW
  obtain ⟨σ, st, kc, ks⟩ := X
  rw [co_new] at h
  cases hg : co_g co_N own idx with
  | none => rw [hg] at h; cases h
  | some ci =>
    rw [hg] at h
    simp only [] at h
    split at h
    · rename_i hh
      simp only [Bool.and_eq_true] at hh
      obtain ⟨h1, h23, h4, h5⟩ := hh
      obtain ⟨h2, h3⟩ := Bool.and_eq_true_iff.mp h23
      have h11 := co_blt h1
      obtain ⟨hcl, hcn⟩ := co_cl h11
      have h := Option.some.inj h
      subst h
      refine va_new (ci := ci) (C := (am_cq ci).1) (T := (am_cq ci).2.1) (N := (am_cq ci).2.2) (own := am_cn own) (fs := co_df ci) hx hb hts (co_in5 hcl) (co_ty ci) (co_tyok h11).1 hown (hts _ (by rw [hcn]; exact co_in2 hg)) (hts _ (by rw [hcn]; exact co_in1 h11 (by simp [co_wc, co_nN]))) (hts _ (by rw [hcn]; exact co_in1 h11 (by simp [co_wc]))) hK hP hD hS hA hcl (fun j hj => co_df_at hj) (Nat.le_of_ble_eq_true h4) (Nat.le_of_ble_eq_true h5) hd (fun q H1 hP1 hD1 hS1 => ?_)
      have e1 : co_ws (co_ax ad σ.length q) cA (σ ++ [.inl (ci, co_df ci)]) = co_ws ad cA σ ++ [(q, .inr (ci, co_df ci))] := by
        rw [co_ws_push h2 (co_df_lC _ ci)]
        show co_ws ad cA σ ++ [(q, .inr (ci, (co_df ci).map (co_v ad)))] = _
        rw [co_df_map]
      have k1 := kk (co_ax ad σ.length q) H1 locs ⟨by show va_P D vwCl (co_ws (co_ax ad σ.length q) cA (σ ++ [.inl (ci, co_df ci)])) H1; rw [e1]; exact hP1, by show va_D A (co_ws (co_ax ad σ.length q) cA (σ ++ [.inl (ci, co_df ci)])); rw [e1]; exact hD1, hS1⟩ (fun j hj => co_ax_lt hj) (by simp)
      have e2 : (Value.ref σ.length :: st).map (co_v (co_ax ad σ.length q)) = .ref q :: st.map (co_v ad) := by
        rw [List.map_cons, co_vs_cong (fun j h => co_ax_lt h) h3]
        show Value.ref (co_ax ad σ.length q σ.length) :: _ = _
        rw [co_ax_eq]
      have k2 : W p l e R s m args below meth c H1 locs (kc + 1) (ks + co_nN ci) Q (F0 m (pc + 3) ls ((Value.ref σ.length :: st).map (co_v (co_ax ad σ.length q)))) := k1
      rw [e2] at k2
      exact k2
    · cases h
theorem co_s_na1 {t : ArrayType} {ty : FieldType} {a : Nat} {n : Int32} {σ : List co_C} {st : List Value} {kc ks : Nat} (F : co_Fx p s m args c cc nL own A D cA) (hty : newarray.typeOf t = ty) (hw : Cond.arrayClass ty ∈ co_T) (ht : (am_tys cA)[a]? = some (cA a, ty)) (hdf : defaultValue ty = .int 0) (hcb : componentBytes ty ≤ 4) (hra : ∀ c', va_RA s c' ty → s.vm.findClass ("[" ++ ty.toString) = some c') (h0 : ¬ n < 0) (h1 : n.toNatClampNeg ≤ 200000) (h2 : σ.all (co_lC σ.length) = true) (h3 : st.all (co_lt σ.length) = true) (h4 : kc + 1 ≤ R.cells) (h5 : ks + n.toNatClampNeg ≤ R.slots) (hd : decode cc pc = .ok (.newarray t, 2)) (hW : co_Wd s A D cA σ ad H locs)
    (kk : co_go p l e R s m args below meth c Q A D cA (pc + 2) ls ad σ.length (σ ++ [.inr (a, n.toNatClampNeg, [])], .ref σ.length :: st, kc + 1, ks + n.toNatClampNeg)) : W p l e R s m args below meth c H locs kc ks Q (F0 m pc ls (.int n :: st.map (co_v ad))) := by
  obtain ⟨hx, hb, hml, hown, hts, hK, hNw, hA⟩ := F
  obtain ⟨hP, hD, hS⟩ := hW
  refine va_newa (ty := ty) (a0 := (n.toNatClampNeg, .inl (fun _ => 0))) hx hb (hts _ (by rw [hty]; exact hw)) hty hK hP hD hS hA (fun cA => by rw [hdf]; rfl) h0 rfl ?_ h4 h5 hd (fun q c' H1 hK1 hP1 hD1 hS1 => ?_)
  · have := Nat.mul_le_mul h1 hcb
    omega
  · have ec : c' = cA a := by
      have r1 := hra c' (hK1.2 3 (c', ty) rfl).2
      have r2 := hra (cA a) (hK.2 a _ ht).2
      rw [r1] at r2
      exact Option.some.inj r2
    subst ec
    have e1 : co_ws (co_ax ad σ.length q) cA (σ ++ [.inr (a, n.toNatClampNeg, [])]) = co_ws ad cA σ ++ [(q, .inl (cA a, n.toNatClampNeg, .inl (fun _ => 0)))] := by
      rw [co_ws_push h2 rfl]
      rfl
    have k1 := kk (co_ax ad σ.length q) H1 locs ⟨by show va_P D vwCl (co_ws (co_ax ad σ.length q) cA (σ ++ [.inr (a, n.toNatClampNeg, [])])) H1; rw [e1]; exact hP1, by show va_D A (co_ws (co_ax ad σ.length q) cA (σ ++ [.inr (a, n.toNatClampNeg, [])])); rw [e1]; exact hD1, hS1⟩ (fun j hj => co_ax_lt hj) (by simp)
    have e2 : (Value.ref σ.length :: st).map (co_v (co_ax ad σ.length q)) = .ref q :: st.map (co_v ad) := by
      rw [List.map_cons, co_vs_cong (fun j h => co_ax_lt h) h3]
      show Value.ref (co_ax ad σ.length q σ.length) :: _ = _
      rw [co_ax_eq]
    have k2 : W p l e R s m args below meth c H1 locs (kc + 1) (ks + n.toNatClampNeg) Q (F0 m (pc + 2) ls ((Value.ref σ.length :: st).map (co_v (co_ax ad σ.length q)))) := k1
    rw [e2] at k2
    exact k2
theorem co_s_newa {t : ArrayType} (F : co_Fx p s m args c cc nL own A D cA) (h : co_newa R.cells R.slots t X = some X1) (hd : decode cc pc = .ok (.newarray t, 2)) (hW : co_Wd s A D cA X.1 ad H locs) (kk : co_go p l e R s m args below meth c Q A D cA (pc + 2) ls ad X.1.length X1) : W p l e R s m args below meth c H locs X.2.2.1 X.2.2.2 Q (F0 m pc ls (X.2.1.map (co_v ad))) := by
  obtain ⟨σ, st, kc, ks⟩ := X
  rw [co_newa] at h
  simp only [] at h
  split at h
  · rename_i n st1
    split at h
    · rename_i a ha
      split at h
      · rename_i hh
        simp only [Bool.and_eq_true] at hh
        obtain ⟨h1, h2, h34, h5, h6⟩ := hh
        obtain ⟨h3, h4⟩ := Bool.and_eq_true_iff.mp h34
        have h := Option.some.inj h
        subst h
        have h0 : ¬ n < 0 := by simpa using h1
        have h2' := Nat.le_of_ble_eq_true h2
        have h5' := Nat.le_of_ble_eq_true h5
        have h6' := Nat.le_of_ble_eq_true h6
        cases t with
        | int => cases ha; exact co_s_na1 (ty := .int) (t := .int) F rfl (co_in6 (by decide)) rfl rfl (by decide) (fun _ h => h) h0 h2' h3 h4 h5' h6' hd hW kk
        | byte => cases ha; exact co_s_na1 (ty := .byte) (t := .byte) F rfl (co_in6 (by decide)) rfl rfl (by decide) (fun _ h => h) h0 h2' h3 h4 h5' h6' hd hW kk
        | boolean => cases ha; exact co_s_na1 (ty := .boolean) (t := .boolean) F rfl (co_in6 (by decide)) rfl rfl (by decide) (fun _ h => h) h0 h2' h3 h4 h5' h6' hd hW kk
        | _ => cases ha
      · cases h
    · cases h
  · cases h
end Cos
