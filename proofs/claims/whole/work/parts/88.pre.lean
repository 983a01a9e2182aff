/-! what the Statement says of the start: Strings, statics, classes -/
def pr_N : Cond := Jvm.Cond.and given_1 narrow_1
def pr_tm (i : Nat) : Term := .string RX6 (71 + 2 * i)
theorem pr_get {args : Array Value} {s : State} (h : pr_N.before args s = true) {k : Nat} {c : Cond} (hk : (flatC pr_N)[k]? = some c) : c.before args s = true := flat_of_before _ h c (List.mem_of_getElem? hk)
theorem pr_tab {args : Array Value} {s : State} (h : ∀ w ∈ lw_tbl, w.before args s = true) {k : Nat} {c : Cond} (hk : lw_tbl[k]? = some c) : c.before args s = true := h c (List.mem_of_getElem? hk)
def pr_pex : List Nat := [9, 16, 26, 36, 45, 56, 68, 84, 99, 115, 132, 152, 171]
def pr_pco : List Nat := [10, 17, 27, 37, 46, 57, 69, 85, 100, 116, 133, 153, 172]
def pr_par : List Nat := [11, 18, 28, 38, 47, 58, 70, 86, 101, 117, 134, 154, 173]
def pr_ple : List Nat := [12, 19, 29, 39, 48, 59, 71, 87, 102, 118, 135, 155, 174]
def pr_pel : List (List Nat) := [[13, 14, 15], [20, 21, 22, 23, 24], [30, 31, 32, 33], [40, 41], [49, 50, 51], [60, 61, 62], [72, 73, 74, 75, 76, 77], [88, 89, 90, 91], [103, 104, 105, 106], [119, 120, 121, 122], [136, 137, 138, 139, 140, 141], [156, 157, 158, 159], []]
def pr_pne : List (List Nat) := [[0, 25, 34, 42, 52, 63, 78, 92, 107, 123, 142, 160, 175], [25, 0, 35, 43, 53, 64, 79, 93, 108, 124, 143, 161, 176], [34, 35, 0, 44, 54, 65, 80, 94, 109, 125, 144, 162, 177], [42, 43, 44, 0, 55, 66, 81, 95, 110, 126, 145, 163, 178], [52, 53, 54, 55, 0, 67, 82, 96, 111, 127, 146, 164, 179], [63, 64, 65, 66, 67, 0, 83, 97, 112, 128, 147, 165, 180], [78, 79, 80, 81, 82, 83, 0, 98, 113, 129, 148, 166, 181], [92, 93, 94, 95, 96, 97, 98, 0, 114, 130, 149, 167, 182], [107, 108, 109, 110, 111, 112, 113, 114, 0, 131, 150, 168, 183], [123, 124, 125, 126, 127, 128, 129, 130, 131, 0, 151, 169, 184], [142, 143, 144, 145, 146, 147, 148, 149, 150, 151, 0, 170, 185], [160, 161, 162, 163, 164, 165, 166, 167, 168, 169, 170, 0, 186], [175, 176, 177, 178, 179, 180, 181, 182, 183, 184, 185, 186, 0]]
set_option maxRecDepth 100000 in
theorem pr_ex : (List.range 13).all (fun i => decide ((flatC pr_N)[pr_pex.getD i 0]? = some (Cond.exactly (pr_tm i) "java/lang/String"))) = true := by decide +kernel
set_option maxRecDepth 100000 in
theorem pr_co : (List.range 13).all (fun i => decide ((flatC pr_N)[pr_pco.getD i 0]? = some (Cond.eq (.field (pr_tm i) "java/lang/String" "coder" "B") (.int 0)))) = true := by decide +kernel
set_option maxRecDepth 100000 in
theorem pr_ar : (List.range 13).all (fun i => decide ((flatC pr_N)[pr_par.getD i 0]? = some (Cond.arrayOf (.field (pr_tm i) "java/lang/String" "value" "[B") .byte))) = true := by decide +kernel
set_option maxRecDepth 100000 in
theorem pr_le : (List.range 13).all (fun i => decide ((flatC pr_N)[pr_ple.getD i 0]? = some (Cond.eq (.length (.field (pr_tm i) "java/lang/String" "value" "[B")) (.int (Int32.ofNat (am_len.getD i 0)))))) = true := by decide +kernel
set_option maxRecDepth 100000 in
theorem pr_el : (List.range 13).all (fun i => (List.range (am_len.getD i 0)).all (fun j => decide ((flatC pr_N)[(pr_pel.getD i []).getD j 0]? = some (Cond.eq (.elem (.field (pr_tm i) "java/lang/String" "value" "[B") (.int (Int32.ofNat j))) (.int ((am_byt.getD i []).getD j 0)))))) = true := by decide +kernel
set_option maxRecDepth 100000 in
theorem pr_ne : (List.range 13).all (fun i => (List.range 13).all (fun j => Nat.beq i j || (decide ((flatC pr_N)[(pr_pne.getD i []).getD j 0]? = some (Cond.not (Cond.eq (pr_tm i) (pr_tm j)))) || decide ((flatC pr_N)[(pr_pne.getD i []).getD j 0]? = some (Cond.not (Cond.eq (pr_tm j) (pr_tm i))))))) = true := by decide +kernel
theorem pr_S {args : Array Value} {s : State} (h : pr_N.before args s = true) {A : Nat → Prop} (hA : ∀ a : Nat, a < s.heap.size → ¬ A a) : ∃ adK adV : Nat → Nat, vk_S 13 am_len am_byt adK adV A s s.heap ∧ ∀ i : Nat, i < 13 → (pr_tm i).eval args s none [] s = some (.ref (adK i)) := by
  have one : ∀ {P : Nat → Bool}, (List.range 13).all P = true → ∀ i, i < 13 → P i = true := fun hP i hi => List.all_eq_true.mp hP i (List.mem_range.mpr hi)
  refine vk_Sof (fun i hi => ?_) (fun i hi => pr_get h (of_decide_eq_true (one pr_ex i hi))) (fun i hi => pr_get h (of_decide_eq_true (one pr_co i hi))) (fun i hi => pr_get h (of_decide_eq_true (one pr_ar i hi))) (fun i hi => pr_get h (of_decide_eq_true (one pr_le i hi))) (fun i hi j hj => pr_get h (of_decide_eq_true (List.all_eq_true.mp (one pr_el i hi) j (List.mem_range.mpr hj)))) (fun i j hi hj hij => ?_) hA
  · have : (List.range 13).all (fun i => Nat.blt (am_len.getD i 0) 100) = true := by decide
    have := co_blt (one this i hi)
    omega
  · have h1 := List.all_eq_true.mp (one pr_ne i hi) j (List.mem_range.mpr hj)
    rcases Bool.or_eq_true_iff.mp h1 with h2 | h2
    · exact absurd (Nat.eq_of_beq_eq_true h2) hij
    · rcases Bool.or_eq_true_iff.mp h2 with h3 | h3
      · exact Or.inl (pr_get h (of_decide_eq_true h3))
      · exact Or.inr (pr_get h (of_decide_eq_true h3))
def pr_p6 : List (Nat × Nat × Nat) := [(71, 0, 573), (73, 1, 574), (75, 2, 575), (77, 3, 576), (79, 4, 577), (81, 5, 578), (83, 6, 579), (85, 7, 580), (87, 8, 581), (89, 9, 582), (91, 10, 583), (93, 11, 584), (95, 12, 585)]
def pr_p10 : List (Nat × Nat × Nat) := [(118, 6, 1206), (124, 7, 1207), (126, 8, 1208), (128, 9, 1209), (130, 10, 1210), (132, 11, 1211), (134, 2, 1190), (136, 3, 1197), (138, 4, 1198), (140, 5, 1199), (142, 0, 1200), (144, 1, 1201)]
def pr_peq : List (Nat × Nat × Nat) := [(118, 6, 340), (124, 7, 368), (126, 8, 397), (128, 9, 427), (130, 10, 460), (132, 11, 492), (134, 2, 197), (136, 3, 217), (138, 4, 239), (140, 5, 262), (142, 0, 280), (144, 1, 307)]
set_option maxRecDepth 100000 in
theorem pr_r6 : pr_p6.all (fun q => decide (lw_tbl[q.2.2]? = some (Cond.stringRef RX6 q.1 (am_tx q.2.1))) && (Nat.beq q.1 (71 + 2 * q.2.1) && Nat.blt q.2.1 13)) = true := by decide +kernel
set_option maxRecDepth 100000 in
theorem pr_r10 : pr_p10.all (fun q => decide (lw_tbl[q.2.2]? = some (Cond.stringRef RX10 q.1 (am_tx q.2.1)))) = true := by decide +kernel
set_option maxRecDepth 100000 in
theorem pr_req : pr_peq.all (fun q => decide ((flatC pr_N)[q.2.2]? = some (Cond.eq (pr_tm q.2.1) (.string RX10 q.1))) && Nat.blt q.2.1 13) = true := by decide +kernel
theorem pr_ST : am_ST = [(6, pr_p6.map (fun q => (q.1, q.2.1))), (10, pr_p10.map (fun q => (q.1, q.2.1)))] := by decide
theorem pr_10 : pr_p10.map (fun q => (q.1, q.2.1)) = pr_peq.map (fun q => (q.1, q.2.1)) := by decide
theorem pr_R {args : Array Value} {s : State} (h : pr_N.before args s = true) (ht : ∀ w ∈ lw_tbl, w.before args s = true) {adK : Nat → Nat} (hS : ∀ i : Nat, i < 13 → (pr_tm i).eval args s none [] s = some (.ref (adK i))) (c k i : Nat) (hi : am_in2 am_ST c k i) : vk_R (am_cn c) k (am_tx i) (adK i) s := by
  obtain ⟨l, h1, h2⟩ := hi
  rw [pr_ST] at h1
  rcases List.mem_cons.mp h1 with h1 | h1
  · cases h1
    obtain ⟨q, h3, h4⟩ := List.mem_map.mp h2
    cases h4
    have h5 := List.all_eq_true.mp pr_r6 q h3
    obtain ⟨h5, h6⟩ := Bool.and_eq_true_iff.mp h5
    obtain ⟨h6, h7⟩ := Bool.and_eq_true_iff.mp h6
    refine vk_R.of (pr_tab ht (of_decide_eq_true h5)) ?_
    have := hS q.2.1 (co_blt h7)
    rw [pr_tm, ← Nat.eq_of_beq_eq_true h6] at this
    exact this
  · rcases List.mem_cons.mp h1 with h1 | h1
    · cases h1
      have h2' := h2
      obtain ⟨q, h3, h4⟩ := List.mem_map.mp h2
      cases h4
      rw [pr_10] at h2'
      obtain ⟨q', h3', h4'⟩ := List.mem_map.mp h2'
      have e1 : q'.1 = q.1 := (Prod.mk.inj h4').1
      have e2 : q'.2.1 = q.2.1 := (Prod.mk.inj h4').2
      have h5 := List.all_eq_true.mp pr_r10 q h3
      have h6 := List.all_eq_true.mp pr_req q' h3'
      obtain ⟨h6, h7⟩ := Bool.and_eq_true_iff.mp h6
      refine vk_R.of (pr_tab ht (of_decide_eq_true h5)) ?_
      have := va_eqR (pr_get h (of_decide_eq_true h6)) (hS q'.2.1 (co_blt h7))
      rw [e1, e2] at this
      exact this
    · exact absurd h1 List.not_mem_nil
def pr_pn : List Nat := [168, 173, 164, 179, 184, 151, 234, 123, 240, 236, 130, 126, 128, 238, 158, 149, 186, 183, 156, 167, 175, 165, 169, 178, 182, 174, 148, 160, 162, 171, 191, 255, 124, 260, 262, 157, 166, 176, 180, 308, 310, 312, 336, 338, 332, 330, 334, 387, 389, 369, 371, 187, 189, 289, 152, 154]
set_option maxRecDepth 100000 in
theorem pr_nest : am_nest.map some = pr_pn.map (fun k => lw_tbl[k]?) := by decide +kernel
theorem pr_Nw {args : Array Value} {s : State} (ht : ∀ w ∈ lw_tbl, w.before args s = true) (w : Cond) (hw : w ∈ am_nest) : va_Nw w s := by
  obtain ⟨a, i, b, n, d, h, e⟩ := am_nest_form hw
  have h1 : some w ∈ am_nest.map some := List.mem_map.mpr ⟨w, hw, rfl⟩
  rw [pr_nest] at h1
  obtain ⟨k, -, hk⟩ := List.mem_map.mp h1
  refine va_Nw.of ?_ (pr_tab ht hk)
  rw [e]
  rfl
set_option maxRecDepth 100000 in
theorem pr_st : (lw_tbl[598]? = some (Cond.laysStatic "java/lang/String" "COMPACT_STRINGS" "Z") ∧ lw_tbl[95]? = some (Cond.initialized "java/lang/String")) ∧ lw_tbl[614]? = some (Cond.laysStatic "jdk/internal/util/Preconditions" "SIOOBE_FORMATTER" "Ljava/util/function/BiFunction;") ∧ lw_tbl[97]? = some (Cond.initialized "jdk/internal/util/Preconditions") := by decide +kernel
set_option maxRecDepth 100000 in
theorem pr_sv : (flatC pr_N)[4]? = some (Cond.eq (.static "java/lang/String" "COMPACT_STRINGS" "Z") (.int 1)) ∧ (flatC pr_N)[5]? = some (Cond.isRef (.static "jdk/internal/util/Preconditions" "SIOOBE_FORMATTER" "Ljava/util/function/BiFunction;")) := by decide +kernel
theorem pr_Z {args : Array Value} {s : State} (h : pr_N.before args s = true) (ht : ∀ w ∈ lw_tbl, w.before args s = true) {A : Nat → Prop} (hA : ∀ a : Nat, a < s.heap.size → ¬ A a) : va_Z "java/lang/String" "COMPACT_STRINGS" "Z" (.int 1) A s s.heap ∧ ∃ vF : Value, vF.category = 1 ∧ va_Z "jdk/internal/util/Preconditions" "SIOOBE_FORMATTER" "Ljava/util/function/BiFunction;" vF A s s.heap := by
  refine ⟨va_Zof (pr_tab ht pr_st.1.1) (pr_tab ht pr_st.1.2) (va_eqi (pr_get h pr_sv.1)) hA, ?_⟩
  rcases va_Zqof (pr_tab ht pr_st.2.1) (pr_tab ht pr_st.2.2) (pr_get h pr_sv.2) hA with hz | ⟨t, hz⟩
  · exact ⟨.null, rfl, hz⟩
  · exact ⟨.ref t, rfl, hz⟩
theorem pr_arr {args : Array Value} {s : State} {ty : FieldType} (h : (Cond.arrayClass ty).before args s = true) : ∃ c : ClassId, s.vm.findClass ("[" ++ ty.toString) = some c ∧ ArrOfT s c ty := by
  obtain ⟨cA, kA, comp, h1, h2, h3⟩ := Cond.arrayClass_spec h
  exact ⟨cA, h1, fun n z => ⟨fun k h => (by cases h), kA, h2, comp, h3⟩⟩
theorem pr_K {args : Array Value} {s : State} (ht : ∀ w ∈ co_T, w.before args s = true) : ∃ (D : va_G) (cA : Nat → ClassId), va_K D vwCl (am_tys cA) s := by
  obtain ⟨c0, f0, a0⟩ := pr_arr (ht (.arrayClass .int) (co_in6 (by simp [co_w6])))
  obtain ⟨c1, f1, a1⟩ := pr_arr (ht (.arrayClass .byte) (co_in6 (by simp [co_w6])))
  obtain ⟨c2, f2, a2⟩ := pr_arr (ht (.arrayClass .boolean) (co_in6 (by simp [co_w6])))
  have one : ∀ ci : Nat, ∃ q : ClassId × (Nat → Nat), ci < 11 → u_Kn s (am_cq ci).1 (am_cq ci).2.1 (am_cq ci).2.2 q.1 q.2 := by
    intro ci
    by_cases h11 : ci < 11
    · obtain ⟨hcl, hcn⟩ := co_cl h11
      obtain ⟨cC, iS, hk⟩ := u_known (C := (am_cq ci).1) (T := (am_cq ci).2.1) (N := (am_cq ci).2.2) (n := co_nN ci) ht (co_in5 hcl) (ht _ (by rw [hcn]; exact co_in1 h11 (by simp [co_wc])))
      exact ⟨(cC, iS), fun _ => hk⟩
    · exact ⟨(0, fun _ => 0), fun h => absurd h h11⟩
  obtain ⟨f, hf⟩ := Classical.axiomOfChoice one
  refine ⟨(fun ci => (f ci).1, fun ci => (f ci).2), fun t => match t with
    | 0 => c0
    | 1 => c1
    | _ => c2, fun ci q hq => ?_, fun k q hq => ?_⟩
  · have h11 : ci < 11 := by
      have := (List.getElem?_eq_some_iff.mp hq).1
      have e : vwCl.length = 11 := rfl
      omega
    have hc := (co_cl h11).1
    rw [hc] at hq
    have e := Option.some.inj hq
    subst e
    exact hf ci h11
  · match k, hq with
    | 0, hq => cases hq; exact ⟨a0, f0⟩
    | 1, hq => cases hq; exact ⟨a1, f1⟩
    | 2, hq => cases hq; exact ⟨a2, f2⟩
    | k + 3, hq => simp [am_tys] at hq
