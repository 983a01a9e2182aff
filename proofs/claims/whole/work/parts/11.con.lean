/-! the world that every frame sees, and a method's contract -/
abbrev am_G : Type := (Nat → Nat) × (Nat → Nat) × (Nat → Nat) × Value × va_G × (Nat → ClassId) × Nat × Nat × (Nat → Int32)
abbrev am_G.ad (G : am_G) : Nat → Nat := G.1
abbrev am_G.aK (G : am_G) : Nat → Nat := G.2.1
abbrev am_G.aV (G : am_G) : Nat → Nat := G.2.2.1
abbrev am_G.vF (G : am_G) : Value := G.2.2.2.1
abbrev am_G.D (G : am_G) : va_G := G.2.2.2.2.1
abbrev am_G.cA (G : am_G) : Nat → ClassId := G.2.2.2.2.2.1
abbrev am_G.b (G : am_G) : Nat := G.2.2.2.2.2.2.1
abbrev am_G.L (G : am_G) : Nat := G.2.2.2.2.2.2.2.1
abbrev am_G.xs (G : am_G) : Nat → Int32 := G.2.2.2.2.2.2.2.2
abbrev am_G.cv (G : am_G) : Value → Value := am_cv G.ad G.aK G.aV G.vF
def am_Aw (G : am_G) : Nat → Prop := fun q => ∃ k, k < 73 ∧ q = G.ad k
def am_Kw (G : am_G) (A : Nat → Prop) (U : State) (H : Heap) : Prop :=
  va_K G.D vwCl (am_tys G.cA) U ∧ (∀ w ∈ am_nest, va_Nw w U) ∧ (∀ c k i, am_in2 am_ST c k i → vk_R (am_cn c) k (am_tx i) (G.aK i) U) ∧ vk_S 13 am_len am_byt G.aK G.aV A U H ∧
  va_Z "java/lang/String" "COMPACT_STRINGS" "Z" (.int 1) A U H ∧ va_Z "jdk/internal/util/Preconditions" "SIOOBE_FORMATTER" "Ljava/util/function/BiFunction;" G.vF A U H ∧
  G.vF.category = 1 ∧ (∀ i j : Nat, i < 73 → j < 73 → G.ad i = G.ad j → i = j) ∧ (∀ k : Nat, k < 73 → A (G.ad k)) ∧
  va_X G.b G.L G.xs U H ∧ G.b < H.size ∧ ¬ A G.b ∧ G.ad 999 = G.b ∧ G.L ≤ 3072
def am_Wd (G : am_G) (μ : am_Mem) (H : Heap) : Prop := va_P G.D vwCl (am_ws G.ad G.cA μ) H ∧ μ 999 = G.xs ∧ μ 998 0 = Int32.ofNat G.L
def am_rt (y : Nat) : Option FieldType := match am_fa am_MT y with
  | some q => q.2.2.2.1
  | none => none
def am_rm (d : Nat) : Room := { frames := d, cells := 0, slots := 0, locals := 40 * d }
def am_wy (y : Nat) : List Cond := Cond.code (am_yn y) (am_cd y) (am_mL y) (am_rt y) :: am_T0
def am_Pc (G : am_G) (a : am_V) (μ : am_Mem) : Array Value → State → Prop := va_Pc (a.map G.cv) (fun U => am_Wd G μ U.heap ∧ am_Kw G (am_Aw G) U U.heap)
def am_Qc (G : am_G) (r : Option Value) (μ : am_Mem) : Array Value → State → Outcome → State → Prop := fun _ st o t => o = .returned (r.map G.cv) ∧ am_Wd G μ t.heap ∧ va_F (am_Aw G) st t
def am_Con (l : Launch) (G : am_G) (d y : Nat) (a : am_V) (μ μ' : am_Mem) (r : Option Value) : Prop := Met l (am_yn y) (am_wy y) (am_rm d) (am_Pc G a μ) (am_Qc G r μ') 0 0 (am_Aw G)
theorem am_nest_form {w : Cond} (h : w ∈ am_nest) : ∃ a i b n d h, w = .fieldLinkNest a i b n d h := by
  obtain ⟨c, -, h2⟩ := List.mem_flatMap.mp h
  obtain ⟨q, -, rfl⟩ := List.mem_map.mp h2
  exact ⟨_, _, _, _, _, _, rfl⟩
theorem am_Kw.go {G : am_G} {A B : Nat → Prop} {s U : State} {H : Heap} {locs : List Loc} (h : am_Kw G A s s.heap) (hS : va_S A s.heap H locs) (hW : s.WarmedH U.vm) (hU : U.heap = H) (hAB : ∀ q, B q → A q) (hB : ∀ k : Nat, k < 73 → B (G.ad k)) : am_Kw G B U U.heap := by
  obtain ⟨h1, h2, h3, h4, h5, h6, h7, h8, h9, h10, h11, h12, h13, h14⟩ := h
  have al : s.vm.Alike U.vm := hW.alike
  rw [hU]
  refine ⟨va_K.moved al h1, fun w hw => ?_, fun c k i hi => vk_R.warm hW (h3 c k i hi), ((h4.kept hS.2.1).moved al).narrow hAB, ((h5.kept hS.2.1).moved al).narrow hAB, ((h6.kept hS.2.1).moved al).narrow hAB, h7, h8, hB, (h10.kept (hS.2.1 _ h11 h12)).moved al, Nat.lt_of_lt_of_le h11 hS.1, fun z => h12 (hAB _ z), h13, h14⟩
  obtain ⟨a, i, b, n, d, k, rfl⟩ := am_nest_form hw
  exact va_Nw.warmF hW (h2 _ hw)
theorem am_Kw.calling {G : am_G} {A : Nat → Prop} {U : State} (g : JFrame) (mk : MethodId) (a : Array Value) (h : am_Kw G A U U.heap) : am_Kw G A (U.calling g mk a) (U.calling g mk a).heap := by
  obtain ⟨h1, h2, h3, h4, h5, h6, h7, h8, h9, h10, h11, h12, h13, h14⟩ := h
  have al : U.vm.Alike (U.calling g mk a).vm := Vm.Alike.refl U.vm
  refine ⟨va_K.moved al h1, fun w hw => ?_, fun c k i hi => vk_R.same rfl (h3 c k i hi), h4.moved al, h5.moved al, h6.moved al, h7, h8, h9, h10.moved al, h11, h12, h13, h14⟩
  obtain ⟨a, i, b, n, d, k, rfl⟩ := am_nest_form hw
  exact va_Nw.same rfl rfl (h2 _ hw)
theorem am_Pc.blind {G : am_G} {a : am_V} {μ : am_Mem} : FrameBlind (am_Pc G a μ) := fun _ _ g mk h => ⟨h.1, h.2.1, h.2.2.calling g mk _⟩
/-- the locals -/
def am_prs (G : am_G) (ls : am_V) : List (Nat × Value) := (List.range ls.length).filterMap (fun k => match ls[k]? with
  | some v => if v = .null then none else some (k, G.cv v)
  | none => none)
theorem am_prs_mem {G : am_G} {ls : am_V} {k : Nat} {w : Value} : (k, w) ∈ am_prs G ls ↔ ∃ v, ls[k]? = some v ∧ v ≠ .null ∧ w = G.cv v := by
  constructor
  · intro h
    obtain ⟨j, -, hj⟩ := List.mem_filterMap.mp h
    split at hj
    · rename_i v hv
      split at hj
      · cases hj
      · rename_i hn
        cases hj
        exact ⟨v, hv, hn, rfl⟩
    · cases hj
  · rintro ⟨v, h1, h2, rfl⟩
    refine List.mem_filterMap.mpr ⟨k, List.mem_range.mpr (List.getElem?_eq_some_iff.mp h1).1, ?_⟩
    rw [h1]
    simp [h2]
def am_lr (G : am_G) (nL : Nat) (ls : am_V) (lsC : Array Slot) : Prop := ls.length = nL ∧ lv_has lsC nL (am_prs G ls)
theorem am_lr.at {G : am_G} {nL : Nat} {ls : am_V} {lsC : Array Slot} (h : am_lr G nL ls lsC) {k : Nat} {v : Value} (hk : ls[k]? = some v) (hv : v ≠ .null) : lsC[k]? = some (.val (G.cv v)) := h.2.2.2 (k, G.cv v) (am_prs_mem.mpr ⟨v, hk, hv, rfl⟩)
theorem am_cv_cat {G : am_G} (h : G.vF.category = 1) (v : Value) : (G.cv v).category = 1 := by
  cases v <;> first | rfl | exact h
theorem am_lr.set {G : am_G} {nL : Nat} {ls : am_V} {lsC' : Array Slot} {i : Nat} {x : Int32} (hF : G.vF.category = 1) (hl : ls.length = nL) (h : lv_has lsC' nL ((i, Value.int x) :: (am_prs G ls).filter (fun q => !(q.1 == i) && !(q.1 + 1 == i && q.2.category == 2)))) : am_lr G nL (ls.set i (.int x)) lsC' := by
  refine ⟨by simp [hl], h.1, h.2.1, fun q hq => ?_⟩
  obtain ⟨k, w⟩ := q
  obtain ⟨v, h1, h2, rfl⟩ := am_prs_mem.mp hq
  rw [List.getElem?_set] at h1
  by_cases hk : i = k
  · subst hk
    rw [if_pos rfl] at h1
    split at h1
    · cases h1
      exact h.2.2 _ List.mem_cons_self
    · cases h1
  · rw [if_neg hk] at h1
    refine h.2.2 _ (List.mem_cons_of_mem _ (List.mem_filter.mpr ⟨am_prs_mem.mpr ⟨v, h1, h2, rfl⟩, ?_⟩))
    have hc := am_cv_cat hF v
    simp [Ne.symm hk, hc]
theorem am_w_code {y : Nat} {q : MethodName × ByteArray × Nat × Option FieldType × Nat × Bool} (h : (y, q) ∈ am_MT) : Cond.code q.1 q.2.1 q.2.2.1 q.2.2.2.1 ∈ am_T0 ∧ Cond.initialized q.1.cls ∈ am_T0 := by
  have e : ∀ w, w ∈ am_w1 → w ∈ am_T0 := fun w h => List.mem_append_left _ h
  refine ⟨e _ (List.mem_flatMap.mpr ⟨_, h, ?_⟩), e _ (List.mem_flatMap.mpr ⟨_, h, ?_⟩)⟩ <;> (obtain ⟨a, b, c, d, f, g⟩ := q; cases g <;> simp [am_wq])
theorem am_w_inst {y : Nat} {q : MethodName × ByteArray × Nat × Option FieldType × Nat × Bool} (h : (y, q) ∈ am_MT) (hs : q.2.2.2.2.2 = false) : Cond.instanceMethod q.1 ∈ am_T0 ∧ Cond.selects q.1.cls q.1 q.1 ∈ am_T0 := by
  have e : ∀ w, w ∈ am_w1 → w ∈ am_T0 := fun w h => List.mem_append_left _ h
  obtain ⟨a, b, c, d, f, g⟩ := q
  cases hs
  exact ⟨e _ (List.mem_flatMap.mpr ⟨_, h, by simp [am_wq]⟩), e _ (List.mem_flatMap.mpr ⟨_, h, by simp [am_wq]⟩)⟩
theorem am_w_stat {y : Nat} {q : MethodName × ByteArray × Nat × Option FieldType × Nat × Bool} (h : (y, q) ∈ am_MT) (hs : q.2.2.2.2.2 = true) : Cond.static q.1 ∈ am_T0 := by
  have e : ∀ w, w ∈ am_w1 → w ∈ am_T0 := fun w h => List.mem_append_left _ h
  obtain ⟨a, b, c, d, f, g⟩ := q
  cases hs
  exact e _ (List.mem_flatMap.mpr ⟨_, h, by simp [am_wq]⟩)
theorem am_w_fld {c i : Nat} {q : Nat × Nat} (h : am_in2 am_FT c i q) : Cond.fieldLink (am_cn c) i (am_T q.1 q.2).1 (am_T q.1 q.2).2.1 (am_T q.1 q.2).2.2.1 ∈ am_T0 := by
  obtain ⟨l, h1, h2⟩ := h
  exact List.mem_append_right _ (List.mem_append_left _ (List.mem_flatMap.mpr ⟨_, h1, List.mem_map.mpr ⟨_, h2, rfl⟩⟩))
theorem am_w_nst {c i : Nat} {q : Nat × Nat} (h : am_in2 am_NT c i q) : Cond.fieldLinkNest (am_cn c) i (am_T q.1 q.2).1 (am_T q.1 q.2).2.1 (am_T q.1 q.2).2.2.1 "NoWordTwice" ∈ am_nest := by
  obtain ⟨l, h1, h2⟩ := h
  exact List.mem_flatMap.mpr ⟨_, h1, List.mem_map.mpr ⟨_, h2, rfl⟩⟩
theorem am_w_call {c i : Nat} {q : Nat × Nat × Nat} (h : am_in2 am_CT c i q) : Cond.methodLink (am_cn c) i (am_yn q.1) ∈ am_T0 := by
  obtain ⟨l, h1, h2⟩ := h
  exact List.mem_append_right _ (List.mem_append_right _ (List.mem_append_left _ (List.mem_flatMap.mpr ⟨_, h1, List.mem_map.mpr ⟨_, h2, rfl⟩⟩)))
theorem am_w_const {c i : Nat} {v : Int32} (h : am_in2 am_IT c i v) : Cond.constant (am_cn c) i v ∈ am_T0 := by
  obtain ⟨l, h1, h2⟩ := h
  exact List.mem_append_right _ (List.mem_append_right _ (List.mem_append_right _ (List.mem_append_left _ (List.mem_flatMap.mpr ⟨_, h1, List.mem_map.mpr ⟨_, h2, rfl⟩⟩))))
theorem am_w_lay {ci : Nat} {q : vw_C} (h : vwCl[ci]? = some q) : ∀ w ∈ u_ws q.1 q.2.1 q.2.2, w ∈ am_T0 := fun w hw =>
  List.mem_append_right _ (List.mem_append_right _ (List.mem_append_right _ (List.mem_append_right _ (List.mem_append_left _ (List.mem_flatMap.mpr ⟨_, List.mem_of_getElem? h, hw⟩)))))
theorem am_w_six {w : Cond} (h : w ∈ am_w6) : w ∈ am_T0 :=
  List.mem_append_right _ (List.mem_append_right _ (List.mem_append_right _ (List.mem_append_right _ (List.mem_append_right _ (List.mem_append_left _ h)))))
theorem am_w_cals {c i : Nat} {q : Nat × Nat × Nat} (h : am_in2 am_CS c i q) : Cond.methodLink (am_cn c) i (am_yn q.1) ∈ am_T0 := by
  obtain ⟨l, h1, h2⟩ := h
  exact List.mem_append_right _ (List.mem_append_right _ (List.mem_append_right _ (List.mem_append_right _ (List.mem_append_right _ (List.mem_append_right _ (List.mem_flatMap.mpr ⟨_, h1, List.mem_map.mpr ⟨_, h2, rfl⟩⟩))))))
theorem am_fa_mem {α : Type} : ∀ {l : List (Nat × α)} {j : Nat} {a : α}, am_fa l j = some a → (j, a) ∈ l
  | [], _, _, h => by cases h
  | q :: l, j, a, h => by
    unfold am_fa at h
    split at h
    · rename_i hq
      have e := Nat.eq_of_beq_eq_true hq
      cases h
      rw [← e]
      exact List.mem_cons_self
    · exact List.mem_cons_of_mem _ (am_fa_mem h)
