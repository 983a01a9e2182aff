/-! the dispatch -/
section Snd4
variable {p : Program} {l : Launch} {e : Env} {R : Room} {s : State} {m : MethodId} {args : Array Value} {below : List Frame} {meth : Method} {c : Code} {cells slots : Nat} {Q : State → Prop} {A : Nat → Prop} {G : am_G} {nL own : Nat} {cc : ByteArray}
theorem am_s_sw {pc : Nat} {x : Int32} {d : Int} {E : Nat → am_R} {μ' : am_Mem} {r : Option Value} : ∀ {os : List Int} {lo : Int}, am_sw E pc x d lo os μ' r → -1000 ≤ lo → lo + os.length ≤ 1001 → (∃ (j : Nat) (o : Int), os[j]? = some o ∧ x.toInt = lo + j ∧ E (am_to pc o) μ' r) ∨ ((x.toInt < lo ∨ lo + os.length ≤ x.toInt) ∧ E (am_to pc d) μ' r)
  | [], lo, h, _, _ => Or.inr ⟨by simp; omega, h⟩
  | o :: os, lo, h, h1, h2 => by
    rw [am_sw] at h
    simp only [List.length_cons] at h2
    by_cases hx : x = am_c lo
    · rw [if_pos hx] at h
      have e := (am_ofInt_inj h1 (by omega) (am_c_of lo h1 (by omega))).mp hx
      exact Or.inl ⟨0, o, rfl, by simpa using e, h⟩
    · rw [if_neg hx] at h
      have e : ¬ x.toInt = lo := fun z => hx ((am_ofInt_inj h1 (by omega) (am_c_of lo h1 (by omega))).mpr z)
      rcases am_s_sw h (by omega) (by omega) with ⟨j, o', g1, g2, g3⟩ | ⟨g1, g2⟩
      · exact Or.inl ⟨j + 1, o', by simpa using g1, by omega, g3⟩
      · refine Or.inr ⟨?_, g2⟩
        simp only [List.length_cons]
        omega
theorem am_s_lsw {pc : Nat} {x : Int32} {d : Int} {E : Nat → am_R} {μ' : am_Mem} {r : Option Value} : ∀ {os : List (Int × Int)}, am_lsw E pc x d os μ' r → (∀ q ∈ os, -1000 ≤ q.1 ∧ q.1 ≤ 1000) → E (am_to pc (Op.lookupswitch.offset os d x.toInt)) μ' r
  | [], h, _ => h
  | q :: os, h, hq => by
    rw [am_lsw] at h
    have b := hq q List.mem_cons_self
    have iff := am_ofInt_inj (x := x) b.1 b.2 (am_c_of q.1 b.1 b.2)
    by_cases hx : x = am_c q.1
    · rw [if_pos hx] at h
      have e := iff.mp hx
      have : Op.lookupswitch.offset (q :: os) d x.toInt = q.2 := by
        simp [Op.lookupswitch.offset, e]
      rw [this]
      exact h
    · rw [if_neg hx] at h
      have e : ¬ q.1 = x.toInt := fun z => hx (iff.mpr z.symm)
      have : Op.lookupswitch.offset (q :: os) d x.toInt = Op.lookupswitch.offset os d x.toInt := by
        simp [Op.lookupswitch.offset, e]
      rw [this]
      exact am_s_lsw h (fun z hz => hq z (List.mem_cons_of_mem _ hz))
set_option maxHeartbeats 4000000 in
theorem am_s_i {C : am_Ct} {z : Nat} {E : am_Kt} {i : Instr} {n pc : Nat} {ls st : am_V} {μ : am_Mem} {κ : am_V → am_V → am_Mem → am_R} {μ' : am_Mem} {r : Option Value} (F : am_Fx p s m args c cc nL own A G) (hC : am_hC l R G C) (hcs : cells ≤ R.cells ∧ slots ≤ R.slots) (hd : decode cc pc = .ok (i, n)) (hok : am_okI pc i n = true)
    (hE : ∀ t ls st μ, E t ls st μ μ' r → am_Wc p l e R s m args below meth c cells slots Q A G nL t ls st μ) (hκ : ∀ ls st μ, κ ls st μ μ' r → am_Wc p l e R s m args below meth c cells slots Q A G nL (pc + n) ls st μ)
    (hI : ∀ ls x μ, decode cc pc = .ok (.ireturn, 1) → am_ir z x (am_ret (some (.int x)) μ) μ' r → am_Wc p l e R s m args below meth c cells slots Q A G nL pc ls [.int x] μ)
    (hA : ∀ ls v μ, decode cc pc = .ok (.areturn, 1) → am_Av v → am_ret (some v) μ μ' r → am_Wc p l e R s m args below meth c cells slots Q A G nL pc ls [v] μ)
    (hV : ∀ ls μ, decode cc pc = .ok (.return_, 1) → am_ret none μ μ' r → am_Wc p l e R s m args below meth c cells slots Q A G nL pc ls [] μ)
    (h : am_i C own z E i pc ls st μ κ μ' r) : am_Wc p l e R s m args below meth c cells slots Q A G nL pc ls st μ := by
  obtain ⟨hx, hb, hml, hown, hts, hK, hAw⟩ := id F
  unfold am_i at h
  split at h
  · -- iconst
    obtain ⟨h1, h2⟩ := Bool.and_eq_true_iff.mp hok
    have hn := Nat.eq_of_beq_eq_true h1; subst hn
    intro H locs lsC hW hS hl
    exact lv_iconst hx hb hd (of_decide_eq_true h2) (hκ _ _ _ h H locs lsC hW hS hl)
  · -- bipush
    obtain ⟨h1, h2⟩ := Bool.and_eq_true_iff.mp hok
    have hn := Nat.eq_of_beq_eq_true h1; subst hn
    intro H locs lsC hW hS hl
    exact lv_bipush hx hb hd (of_decide_eq_true h2) (hκ _ _ _ h H locs lsC hW hS hl)
  · -- sipush
    obtain ⟨h1, h2⟩ := Bool.and_eq_true_iff.mp hok
    have hn := Nat.eq_of_beq_eq_true h1; subst hn
    intro H locs lsC hW hS hl
    exact lv_sipush hx hb hd (of_decide_eq_true h2) (hκ _ _ _ h H locs lsC hW hS hl)
  · -- ldc
    have hn := Nat.eq_of_beq_eq_true hok; subst hn
    intro H locs lsC hW hS hl
    rcases am_lk2.o h with ⟨v, hv, h⟩ | h
    · exact lv_ldc hx hb hown (hts _ (am_w_const hv)) hd (hκ _ _ _ h H locs lsC hW hS hl)
    · rcases am_lk2.o h with ⟨v, hv, h⟩ | h
      · exact va_ldcS hx hb hown (hK.2.2.1 _ _ _ hv) hd (hκ _ _ _ h H locs lsC hW hS hl)
      · exact h.elim
  · -- ldc_w
    have hn := Nat.eq_of_beq_eq_true hok; subst hn
    intro H locs lsC hW hS hl
    rcases am_lk2.o h with ⟨v, hv, h⟩ | h
    · exact lv_ldcw hx hb hown (hts _ (am_w_const hv)) hd (hκ _ _ _ h H locs lsC hW hS hl)
    · exact h.elim
  · -- iload_n
    have hn := Nat.eq_of_beq_eq_true hok; subst hn
    obtain ⟨x, hx1, h⟩ := am_ldI.o h
    intro H locs lsC hW hS hl
    exact lv_iload_n hx hb hd rfl (hl.at hx1 (fun h => by cases h)) (hκ _ _ _ h H locs lsC hW hS hl)
  · -- iload
    have hn := Nat.eq_of_beq_eq_true hok; subst hn
    obtain ⟨x, hx1, h⟩ := am_ldI.o h
    exact am_s_ldI (n := 0) F hd hx1 (hκ _ _ _ h)
  · -- aload_n
    have hn := Nat.eq_of_beq_eq_true hok; subst hn
    obtain ⟨v, hv, hv2, h⟩ := am_ldA.o h
    exact am_s_ldA F hd hv hv2 (hκ _ _ _ h)
  · -- istore_n
    have hn := Nat.eq_of_beq_eq_true hok; subst hn
    obtain ⟨x, st', rfl, hZ1⟩ := am_p1.o h
    have h := hZ1
    obtain ⟨hlt, h⟩ := am_sto.o h
    exact am_s_ston F hd hlt (hκ _ _ _ h)
  · -- istore
    have hn := Nat.eq_of_beq_eq_true hok; subst hn
    obtain ⟨x, st', rfl, hZ2⟩ := am_p1.o h
    have h := hZ2
    obtain ⟨hlt, h⟩ := am_sto.o h
    exact am_s_sto F hd hlt (hκ _ _ _ h)
  · -- iinc
    obtain ⟨h1, h2⟩ := Bool.and_eq_true_iff.mp hok
    have hn := Nat.eq_of_beq_eq_true h1; subst hn
    obtain ⟨x, hx1, h⟩ := am_ldI.o h
    obtain ⟨hlt, h⟩ := am_sto.o h
    exact am_s_iinc F hd (of_decide_eq_true h2) hx1 (hκ _ _ _ h)
  · -- getfield
    have hn := Nat.eq_of_beq_eq_true hok; subst hn
    obtain ⟨v, st', rfl, hZ3⟩ := am_bA.o h
    have h := hZ3
    exact am_s_get F hd h (fun w hw => hκ _ _ _ hw)
  · -- putfield
    have hn := Nat.eq_of_beq_eq_true hok; subst hn
    obtain ⟨x, st', rfl, hZ4⟩ := am_p1.o h
    have h := hZ4
    obtain ⟨K, st', rfl, hZ5⟩ := am_bF.o h
    have h := hZ5
    exact am_s_put F hd h (fun w hw => hκ _ _ _ hw)
  · -- getstatic
    have hn := Nat.eq_of_beq_eq_true hok; subst hn
    obtain ⟨h1, hh⟩ := am_gb.o h
    have ho := Nat.eq_of_beq_eq_true h1
    subst ho
    rename_i k
    intro H locs lsC hW hS hl
    cases h3 : Nat.beq k 38 with
    | true =>
      rw [h3] at hh
      have e := Nat.eq_of_beq_eq_true h3
      subst e
      exact va_gets hx hb hK.2.2.2.2.1 hS hown (hts (.fieldLink RJ0 38 "java/lang/String" "COMPACT_STRINGS" "Z") (am_w_six (by simp [am_w6]))) (fun _ h => h) hd (hκ _ _ _ hh H locs lsC hW hS hl)
    | false =>
      rw [h3] at hh
      cases h4 : Nat.beq k 1053 with
      | true =>
        rw [h4] at hh
        have e := Nat.eq_of_beq_eq_true h4
        subst e
        exact va_gets hx hb hK.2.2.2.2.2.1 hS hown (hts (.fieldLink RJ0 1053 "jdk/internal/util/Preconditions" "SIOOBE_FORMATTER" "Ljava/util/function/BiFunction;") (am_w_six (by simp [am_w6]))) (fun _ h => h) hd (hκ _ _ _ hh H locs lsC hW hS hl)
      | false =>
        rw [h4] at hh
        exact hh.elim
  · -- iaload
    have hn := Nat.eq_of_beq_eq_true hok; subst hn
    obtain ⟨x, st', rfl, hZ6⟩ := am_p1.o h
    have h := hZ6
    obtain ⟨v, st', rfl, hZ7⟩ := am_bA.o h
    have h := hZ7
    exact am_s_iald F hd h (fun w hw => hκ _ _ _ hw)
  · -- baload
    have hn := Nat.eq_of_beq_eq_true hok; subst hn
    obtain ⟨x, st', rfl, hZ8⟩ := am_p1.o h
    have h := hZ8
    obtain ⟨v, st', rfl, hZ9⟩ := am_bA.o h
    have h := hZ9
    exact am_s_bald F hd h (fun w hw => hκ _ _ _ hw)
  · -- iastore
    have hn := Nat.eq_of_beq_eq_true hok; subst hn
    obtain ⟨x, y, st', rfl, hZ10⟩ := am_p2.o h
    have h := hZ10
    obtain ⟨K, st', rfl, hZ11⟩ := am_bF.o h
    have h := hZ11
    obtain ⟨n, hL, h⟩ := am_arr.o h
    obtain ⟨h1, h⟩ := am_gb.o h
    exact am_s_iast F hd hL h1 (hκ _ _ _ h)
  · -- bastore
    have hn := Nat.eq_of_beq_eq_true hok; subst hn
    obtain ⟨x, y, st', rfl, hZ12⟩ := am_p2.o h
    have h := hZ12
    obtain ⟨K, st', rfl, hZ13⟩ := am_bF.o h
    have h := hZ13
    exact am_s_bast F hd h (fun w hw => hκ _ _ _ hw)
  · -- arraylength
    have hn := Nat.eq_of_beq_eq_true hok; subst hn
    obtain ⟨v, st', rfl, hZ14⟩ := am_bA.o h
    have h := hZ14
    exact am_s_alen F hd h (fun w hw => hκ _ _ _ hw)
  · -- iadd
    have hn := Nat.eq_of_beq_eq_true hok; subst hn
    obtain ⟨x, y, st', rfl, hZ15⟩ := am_p2.o h
    have h := hZ15
    intro H locs lsC hW hS hl
    exact lv_iadd hx hb hd (hκ _ _ _ h H locs lsC hW hS hl)
  · -- isub
    have hn := Nat.eq_of_beq_eq_true hok; subst hn
    obtain ⟨x, y, st', rfl, hZ16⟩ := am_p2.o h
    have h := hZ16
    intro H locs lsC hW hS hl
    exact lv_isub hx hb hd (hκ _ _ _ h H locs lsC hW hS hl)
  · -- imul
    have hn := Nat.eq_of_beq_eq_true hok; subst hn
    obtain ⟨x, y, st', rfl, hZ17⟩ := am_p2.o h
    have h := hZ17
    intro H locs lsC hW hS hl
    exact lv_imul hx hb hd (hκ _ _ _ h H locs lsC hW hS hl)
  · -- idiv
    have hn := Nat.eq_of_beq_eq_true hok; subst hn
    obtain ⟨x, y, st', rfl, hZ18⟩ := am_p2.o h
    have h := hZ18
    obtain ⟨h1, h⟩ := am_gb.o h
    intro H locs lsC hW hS hl
    exact lv_idiv hx hb hd (am_ix_pos h1) (hκ _ _ _ h H locs lsC hW hS hl)
  · -- irem
    have hn := Nat.eq_of_beq_eq_true hok; subst hn
    obtain ⟨x, y, st', rfl, hZ19⟩ := am_p2.o h
    have h := hZ19
    obtain ⟨h1, h⟩ := am_gb.o h
    intro H locs lsC hW hS hl
    exact lv_irem hx hb hd (am_ix_pos h1) (hκ _ _ _ h H locs lsC hW hS hl)
  · -- iand
    have hn := Nat.eq_of_beq_eq_true hok; subst hn
    obtain ⟨x, y, st', rfl, hZ20⟩ := am_p2.o h
    have h := hZ20
    intro H locs lsC hW hS hl
    exact lv_iand hx hb hd (hκ _ _ _ h H locs lsC hW hS hl)
  · -- ior
    have hn := Nat.eq_of_beq_eq_true hok; subst hn
    obtain ⟨x, y, st', rfl, hZ21⟩ := am_p2.o h
    have h := hZ21
    intro H locs lsC hW hS hl
    exact lv_ior hx hb hd (hκ _ _ _ h H locs lsC hW hS hl)
  · -- ixor
    have hn := Nat.eq_of_beq_eq_true hok; subst hn
    obtain ⟨x, y, st', rfl, hZ22⟩ := am_p2.o h
    have h := hZ22
    intro H locs lsC hW hS hl
    exact lv_ixor hx hb hd (hκ _ _ _ h H locs lsC hW hS hl)
  · -- ishl
    have hn := Nat.eq_of_beq_eq_true hok; subst hn
    obtain ⟨x, y, st', rfl, hZ23⟩ := am_p2.o h
    have h := hZ23
    intro H locs lsC hW hS hl
    exact lv_ishl hx hb hd (hκ _ _ _ h H locs lsC hW hS hl)
  · -- ishr
    have hn := Nat.eq_of_beq_eq_true hok; subst hn
    obtain ⟨x, y, st', rfl, hZ24⟩ := am_p2.o h
    have h := hZ24
    intro H locs lsC hW hS hl
    exact lv_ishr hx hb hd (hκ _ _ _ h H locs lsC hW hS hl)
  · -- iushr
    have hn := Nat.eq_of_beq_eq_true hok; subst hn
    obtain ⟨x, y, st', rfl, hZ25⟩ := am_p2.o h
    have h := hZ25
    intro H locs lsC hW hS hl
    exact lv_iushr hx hb hd rfl (hκ _ _ _ h H locs lsC hW hS hl)
  · -- i2b
    have hn := Nat.eq_of_beq_eq_true hok; subst hn
    obtain ⟨x, st', rfl, hZ26⟩ := am_p1.o h
    have h := hZ26
    intro H locs lsC hW hS hl
    exact lv_i2b hx hb hd rfl (hκ _ _ _ h H locs lsC hW hS hl)
  · -- i2c
    have hn := Nat.eq_of_beq_eq_true hok; subst hn
    obtain ⟨x, st', rfl, hZ27⟩ := am_p1.o h
    have h := hZ27
    intro H locs lsC hW hS hl
    exact lv_i2c hx hb hd rfl (hκ _ _ _ h H locs lsC hW hS hl)
  · -- dup
    have hn := Nat.eq_of_beq_eq_true hok; subst hn
    obtain ⟨v, st', rfl, hZ28⟩ := am_bA.o h
    have h := hZ28
    obtain ⟨hv, h⟩ := am_is1.o h
    intro H locs lsC hW hS hl
    exact lv_dup hx hb hd (am_cv_cat hK.2.2.2.2.2.2.1 v) (hκ _ _ _ h H locs lsC hW hS hl)
  · -- dup2
    have hn := Nat.eq_of_beq_eq_true hok; subst hn
    obtain ⟨v, st', rfl, hZ29⟩ := am_bA.o h
    have h := hZ29
    obtain ⟨w, st', rfl, hZ30⟩ := am_bA.o h
    have h := hZ30
    obtain ⟨hv, h⟩ := am_is1.o h
    obtain ⟨hw, h⟩ := am_is1.o h
    intro H locs lsC hW hS hl
    exact lv_dup2_11 hx hb hd (am_cv_cat hK.2.2.2.2.2.2.1 v) (am_cv_cat hK.2.2.2.2.2.2.1 w) (hκ _ _ _ h H locs lsC hW hS hl)
  · -- pop
    have hn := Nat.eq_of_beq_eq_true hok; subst hn
    obtain ⟨v, st', rfl, hZ31⟩ := am_bA.o h
    have h := hZ31
    obtain ⟨hv, h⟩ := am_is1.o h
    intro H locs lsC hW hS hl
    exact lv_pop hx hb hd (am_cv_cat hK.2.2.2.2.2.2.1 v) (hκ _ _ _ h H locs lsC hW hS hl)
  · -- goto
    obtain ⟨h1, h2⟩ := Bool.and_eq_true_iff.mp hok
    have hn := Nat.eq_of_beq_eq_true h2; subst hn
    have ht := am_to_eq (of_decide_eq_true h1)
    intro H locs lsC hW hS hl
    exact lv_goto hx hb hd ht (hE _ _ _ _ h H locs lsC hW hS hl)
  · -- ifCond eq
    obtain ⟨h1, h2⟩ := Bool.and_eq_true_iff.mp hok
    have hn := Nat.eq_of_beq_eq_true h2; subst hn
    have ht := am_to_eq (of_decide_eq_true h1)
    obtain ⟨x, st', rfl, hZ32⟩ := am_p1.o h
    have h := hZ32
    intro H locs lsC hW hS hl
    exact lv_if_eq hx hb hd ht (fun hc => by rw [if_pos hc] at h; exact hE _ _ _ _ h H locs lsC hW hS hl) (fun hc => by rw [if_neg hc] at h; exact hκ _ _ _ h H locs lsC hW hS hl)
  · -- ifCond ne
    obtain ⟨h1, h2⟩ := Bool.and_eq_true_iff.mp hok
    have hn := Nat.eq_of_beq_eq_true h2; subst hn
    have ht := am_to_eq (of_decide_eq_true h1)
    obtain ⟨x, st', rfl, hZ33⟩ := am_p1.o h
    have h := hZ33
    intro H locs lsC hW hS hl
    exact lv_if_ne hx hb hd ht (fun hc => by rw [if_neg hc] at h; exact hE _ _ _ _ h H locs lsC hW hS hl) (fun hc => by rw [if_pos hc] at h; exact hκ _ _ _ h H locs lsC hW hS hl)
  · -- ifCond lt
    obtain ⟨h1, h2⟩ := Bool.and_eq_true_iff.mp hok
    have hn := Nat.eq_of_beq_eq_true h2; subst hn
    have ht := am_to_eq (of_decide_eq_true h1)
    obtain ⟨x, st', rfl, hZ34⟩ := am_p1.o h
    have h := hZ34
    intro H locs lsC hW hS hl
    exact lv_if_lt hx hb hd ht (fun hc => by rw [if_pos hc] at h; exact hE _ _ _ _ h H locs lsC hW hS hl) (fun hc => by rw [if_neg hc] at h; exact hκ _ _ _ h H locs lsC hW hS hl)
  · -- ifCond ge
    obtain ⟨h1, h2⟩ := Bool.and_eq_true_iff.mp hok
    have hn := Nat.eq_of_beq_eq_true h2; subst hn
    have ht := am_to_eq (of_decide_eq_true h1)
    obtain ⟨x, st', rfl, hZ35⟩ := am_p1.o h
    have h := hZ35
    intro H locs lsC hW hS hl
    exact lv_if_ge hx hb hd ht (fun hc => by rw [if_pos hc] at h; exact hE _ _ _ _ h H locs lsC hW hS hl) (fun hc => by rw [if_neg hc] at h; exact hκ _ _ _ h H locs lsC hW hS hl)
  · -- ifCond gt
    obtain ⟨h1, h2⟩ := Bool.and_eq_true_iff.mp hok
    have hn := Nat.eq_of_beq_eq_true h2; subst hn
    have ht := am_to_eq (of_decide_eq_true h1)
    obtain ⟨x, st', rfl, hZ36⟩ := am_p1.o h
    have h := hZ36
    intro H locs lsC hW hS hl
    exact lv_if_gt hx hb hd ht (fun hc => by rw [if_pos hc] at h; exact hE _ _ _ _ h H locs lsC hW hS hl) (fun hc => by rw [if_neg hc] at h; exact hκ _ _ _ h H locs lsC hW hS hl)
  · -- ifCond le
    obtain ⟨h1, h2⟩ := Bool.and_eq_true_iff.mp hok
    have hn := Nat.eq_of_beq_eq_true h2; subst hn
    have ht := am_to_eq (of_decide_eq_true h1)
    obtain ⟨x, st', rfl, hZ37⟩ := am_p1.o h
    have h := hZ37
    intro H locs lsC hW hS hl
    exact lv_if_le hx hb hd ht (fun hc => by rw [if_pos hc] at h; exact hE _ _ _ _ h H locs lsC hW hS hl) (fun hc => by rw [if_neg hc] at h; exact hκ _ _ _ h H locs lsC hW hS hl)
  · -- if_icmp eq
    obtain ⟨h1, h2⟩ := Bool.and_eq_true_iff.mp hok
    have hn := Nat.eq_of_beq_eq_true h2; subst hn
    have ht := am_to_eq (of_decide_eq_true h1)
    obtain ⟨x, y, st', rfl, hZ38⟩ := am_p2.o h
    have h := hZ38
    intro H locs lsC hW hS hl
    exact lv_icmp_eq hx hb hd ht (fun hc => by rw [if_pos hc] at h; exact hE _ _ _ _ h H locs lsC hW hS hl) (fun hc => by rw [if_neg hc] at h; exact hκ _ _ _ h H locs lsC hW hS hl)
  · -- if_icmp ne
    obtain ⟨h1, h2⟩ := Bool.and_eq_true_iff.mp hok
    have hn := Nat.eq_of_beq_eq_true h2; subst hn
    have ht := am_to_eq (of_decide_eq_true h1)
    obtain ⟨x, y, st', rfl, hZ39⟩ := am_p2.o h
    have h := hZ39
    intro H locs lsC hW hS hl
    exact lv_icmp_ne hx hb hd ht (fun hc => by rw [if_neg hc] at h; exact hE _ _ _ _ h H locs lsC hW hS hl) (fun hc => by rw [if_pos hc] at h; exact hκ _ _ _ h H locs lsC hW hS hl)
  · -- if_icmp lt
    obtain ⟨h1, h2⟩ := Bool.and_eq_true_iff.mp hok
    have hn := Nat.eq_of_beq_eq_true h2; subst hn
    have ht := am_to_eq (of_decide_eq_true h1)
    obtain ⟨x, y, st', rfl, hZ40⟩ := am_p2.o h
    have h := hZ40
    intro H locs lsC hW hS hl
    exact lv_icmp_lt hx hb hd ht (fun hc => by rw [if_pos hc] at h; exact hE _ _ _ _ h H locs lsC hW hS hl) (fun hc => by rw [if_neg hc] at h; exact hκ _ _ _ h H locs lsC hW hS hl)
  · -- if_icmp ge
    obtain ⟨h1, h2⟩ := Bool.and_eq_true_iff.mp hok
    have hn := Nat.eq_of_beq_eq_true h2; subst hn
    have ht := am_to_eq (of_decide_eq_true h1)
    obtain ⟨x, y, st', rfl, hZ41⟩ := am_p2.o h
    have h := hZ41
    intro H locs lsC hW hS hl
    exact lv_icmp_ge hx hb hd ht (fun hc => by rw [if_pos hc] at h; exact hE _ _ _ _ h H locs lsC hW hS hl) (fun hc => by rw [if_neg hc] at h; exact hκ _ _ _ h H locs lsC hW hS hl)
  · -- if_icmp gt
    obtain ⟨h1, h2⟩ := Bool.and_eq_true_iff.mp hok
    have hn := Nat.eq_of_beq_eq_true h2; subst hn
    have ht := am_to_eq (of_decide_eq_true h1)
    obtain ⟨x, y, st', rfl, hZ42⟩ := am_p2.o h
    have h := hZ42
    intro H locs lsC hW hS hl
    exact lv_icmp_gt hx hb hd ht (fun hc => by rw [if_pos hc] at h; exact hE _ _ _ _ h H locs lsC hW hS hl) (fun hc => by rw [if_neg hc] at h; exact hκ _ _ _ h H locs lsC hW hS hl)
  · -- if_icmp le
    obtain ⟨h1, h2⟩ := Bool.and_eq_true_iff.mp hok
    have hn := Nat.eq_of_beq_eq_true h2; subst hn
    have ht := am_to_eq (of_decide_eq_true h1)
    obtain ⟨x, y, st', rfl, hZ43⟩ := am_p2.o h
    have h := hZ43
    intro H locs lsC hW hS hl
    exact lv_icmp_le hx hb hd ht (fun hc => by rw [if_pos hc] at h; exact hE _ _ _ _ h H locs lsC hW hS hl) (fun hc => by rw [if_neg hc] at h; exact hκ _ _ _ h H locs lsC hW hS hl)
  · -- tableswitch
    rename_i d lo hi offs
    simp only [am_okI, Bool.and_eq_true, decide_eq_true_eq] at hok
    obtain ⟨⟨⟨⟨o1, o2⟩, o3⟩, o4⟩, o5⟩ := hok
    obtain ⟨x, st', rfl, hZ44⟩ := am_p1.o h
    have h := hZ44
    intro H locs lsC hW hS hl
    rcases am_s_sw h o3 (by omega) with ⟨j, o, g1, g2, g3⟩ | ⟨g1, g2⟩
    · have hj : j < offs.toList.length := (List.getElem?_eq_some_iff.mp g1).1
      have ho := of_decide_eq_true (List.all_eq_true.mp o5 o (List.mem_of_getElem? g1))
      refine lv_tableIn hx hb hd (by omega) (by omega) (off := o) ?_ (am_to_eq ho) (hE _ _ _ _ g3 H locs lsC hW hS hl)
      have e : (x.toInt - lo).toNat = j := by omega
      rw [e, ← Array.getElem?_toList]
      exact g1
    · exact lv_tableOut hx hb hd (by omega) (am_to_eq o1) (hE _ _ _ _ g2 H locs lsC hW hS hl)
  · -- lookupswitch
    rename_i d ps
    simp only [am_okI, Bool.and_eq_true, decide_eq_true_eq] at hok
    obtain ⟨⟨o1, o2⟩, o3⟩ := hok
    obtain ⟨x, st', rfl, hZ45⟩ := am_p1.o h
    have h := hZ45
    intro H locs lsC hW hS hl
    have hb3 : ∀ q ∈ ps.toList, 0 ≤ (pc : Int) + q.2 ∧ -1000 ≤ q.1 ∧ q.1 ≤ 1000 := fun q hq => by
      have := List.all_eq_true.mp o3 q hq
      simp only [Bool.and_eq_true, decide_eq_true_eq] at this
      exact ⟨this.1.1, this.1.2, this.2⟩
    have g := am_s_lsw h (fun q hq => (hb3 q hq).2)
    have hnn : 0 ≤ (pc : Int) + Op.lookupswitch.offset ps.toList d x.toInt := by
      have : ∀ (os : List (Int × Int)), (∀ q ∈ os, 0 ≤ (pc : Int) + q.2) → 0 ≤ (pc : Int) + Op.lookupswitch.offset os d x.toInt := by
        intro os ho
        induction os with
        | nil => exact o1
        | cons q os ih =>
          by_cases e : q.1 = x.toInt
          · have : Op.lookupswitch.offset (q :: os) d x.toInt = q.2 := by simp [Op.lookupswitch.offset, e]
            rw [this]
            exact ho q List.mem_cons_self
          · have : Op.lookupswitch.offset (q :: os) d x.toInt = Op.lookupswitch.offset os d x.toInt := by simp [Op.lookupswitch.offset, e]
            rw [this]
            exact ih (fun z hz => ho z (List.mem_cons_of_mem _ hz))
      exact this _ (fun q hq => (hb3 q hq).1)
    exact lv_lookup hx hb hd o2 rfl (am_to_eq hnn) (hE _ _ _ _ g H locs lsC hW hS hl)
  · -- invokevirtual
    have hn := Nat.eq_of_beq_eq_true hok; subst hn
    exact am_s_virt F hC hcs hd h (fun st μ1 hk => hκ _ _ _ hk)
  · -- invokestatic
    have hn := Nat.eq_of_beq_eq_true hok; subst hn
    exact am_s_stat F hC hcs hd h (fun st μ1 hk => hκ _ _ _ hk)
  · -- ireturn
    have hn := Nat.eq_of_beq_eq_true hok; subst hn
    obtain ⟨x, st', rfl, hZ46⟩ := am_p1.o h
    have h := hZ46
    cases st' with
    | nil => exact hI _ _ _ hd h
    | cons _ _ => exact h.elim
  · -- areturn
    have hn := Nat.eq_of_beq_eq_true hok; subst hn
    obtain ⟨x, st', rfl, hZ47⟩ := am_bA.o h
    have h := hZ47
    cases st' with
    | nil => exact hA _ _ _ hd (am_isA.o h).1 (am_isA.o h).2
    | cons _ _ => exact h.elim
  · -- return_
    have hn := Nat.eq_of_beq_eq_true hok; subst hn
    cases st with
    | nil => exact hV _ _ hd h
    | cons _ _ => exact h.elim
  · exact h.elim
end Snd4
