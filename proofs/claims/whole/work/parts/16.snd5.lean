/-! frames and calls -/
def am_rok (rt : Option FieldType) (z : Nat) (i : Instr) : Bool := match i with
  | .ireturn => match rt with
    | some .int => Nat.beq z 0
    | some .boolean => Nat.beq z 2
    | some .byte => Nat.beq z 128
    | some .char => Nat.beq z 128
    | _ => false
  | .areturn => match rt with
    | some (.object _) => true
    | _ => false
  | .return_ => match rt with
    | none => true
    | _ => false
  | _ => true
def am_rty (M : Nat) : Option FieldType := match am_fa am_MT M with
  | some q => q.2.2.2.1
  | none => some .boolean
set_option maxRecDepth 100000 in
theorem am_BT_rok : am_BT.all (fun q => q.2.all (fun b => b.2.all (fun i => am_rok (am_rty q.1) (am_z q.1) i.1))) = true := by decide +kernel
theorem am_B_ok (M pc : Nat) : (am_chk (am_cd M) pc (am_B M pc) = true ∧ ∀ q ∈ am_B M pc, am_rok (am_rty M) (am_z M) q.1 = true) ∨ am_B M pc = [(.nop, 1)] := by
  cases h1 : am_fa am_BT M with
  | none => right; simp only [am_B, h1]
  | some l =>
    cases h2 : am_fa l pc with
    | none => right; simp only [am_B, h1, h2]
    | some b =>
      left
      have e : am_B M pc = b := by simp only [am_B, h1, h2]
      rw [e]
      have m1 := am_fa_mem h1
      have m2 := am_fa_mem h2
      refine ⟨List.all_eq_true.mp (am_BT_ok _ m1) _ m2, ?_⟩
      have h3 := List.all_eq_true.mp (List.all_eq_true.mp am_BT_rok _ m1) _ m2
      exact fun q hq => List.all_eq_true.mp h3 q hq
section Snd5
variable {p : Program} {l : Launch} {e : Env} {R : Room} {s : State} {m : MethodId} {args : Array Value} {below : List Frame} {meth : Method} {c : Code} {cells slots : Nat} {Q : State → Prop} {A : Nat → Prop} {G : am_G} {nL own : Nat} {cc : ByteArray}
def am_HI (p : Program) (l : Launch) (e : Env) (R : Room) (s : State) (m : MethodId) (args : Array Value) (below : List Frame) (meth : Method) (c : Code) (cells slots : Nat) (Q : State → Prop) (A : Nat → Prop) (G : am_G) (nL : Nat) (cc : ByteArray) (rt : Option FieldType) (z : Nat) (μ' : am_Mem) (r : Option Value) : Prop :=
  (∀ pc ls x μ, decode cc pc = .ok (.ireturn, 1) → am_rok rt z .ireturn = true → am_ir z x (am_ret (some (.int x)) μ) μ' r → am_Wc p l e R s m args below meth c cells slots Q A G nL pc ls [.int x] μ) ∧
  (∀ pc ls v μ, decode cc pc = .ok (.areturn, 1) → am_rok rt z .areturn = true → am_Av v → am_ret (some v) μ μ' r → am_Wc p l e R s m args below meth c cells slots Q A G nL pc ls [v] μ) ∧
  ∀ pc ls μ, decode cc pc = .ok (.return_, 1) → am_rok rt z .return_ = true → am_ret none μ μ' r → am_Wc p l e R s m args below meth c cells slots Q A G nL pc ls [] μ
theorem am_s_x {C : am_Ct} {z : Nat} {E : am_Kt} {rt : Option FieldType} {μ' : am_Mem} {r : Option Value} (F : am_Fx p s m args c cc nL own A G) (hC : am_hC l R G C) (hcs : cells ≤ R.cells ∧ slots ≤ R.slots) (HI : am_HI p l e R s m args below meth c cells slots Q A G nL cc rt z μ' r)
    (hE : ∀ t ls st μ, E t ls st μ μ' r → am_Wc p l e R s m args below meth c cells slots Q A G nL t ls st μ) : ∀ (b : List (Instr × Nat)) (pc : Nat) (ls st : am_V) (μ : am_Mem), am_chk cc pc b = true → (∀ q ∈ b, am_rok rt z q.1 = true) → am_x C own z E b pc ls st μ μ' r → am_Wc p l e R s m args below meth c cells slots Q A G nL pc ls st μ
  | [], pc, ls, st, μ, _, _, h => hE _ _ _ _ h
  | q :: b, pc, ls, st, μ, hc, hr, h => by
    rw [am_chk, Bool.and_eq_true, Bool.and_eq_true] at hc
    obtain ⟨⟨c1, c2⟩, c3⟩ := hc
    have hd := of_decide_eq_true c1
    have hr1 := hr q List.mem_cons_self
    have same : ∀ i : Instr, decode cc pc = .ok (i, 1) → q.1 = i := fun i hi => by
      rw [hd] at hi
      exact (Prod.mk.inj (Except.ok.inj hi)).1
    exact am_s_i F hC hcs hd c2 hE (fun ls st μ hk => am_s_x F hC hcs HI hE b (pc + q.2) ls st μ c3 (fun w hw => hr w (List.mem_cons_of_mem _ hw)) hk)
      (fun ls x μ hd' h' => HI.1 pc ls x μ hd' (by rw [← same _ hd']; exact hr1) h') (fun ls v μ hd' hv h' => HI.2.1 pc ls v μ hd' (by rw [← same _ hd']; exact hr1) hv h') (fun ls μ hd' h' => HI.2.2 pc ls μ hd' (by rw [← same _ hd']; exact hr1) h') h
theorem am_frame {C : am_Ct} {M : Nat} {μ' : am_Mem} {r : Option Value} (F : am_Fx p s m args c (am_cd M) nL (M / 100) A G) (hC : am_hC l R G C) (hcs : cells ≤ R.cells ∧ slots ≤ R.slots) (HI : am_HI p l e R s m args below meth c cells slots Q A G nL (am_cd M) (am_rty M) (am_z M) μ' r)
    {pc : Nat} {ls st : am_V} {μ : am_Mem} (h : am_ev C M pc ls st μ μ' r) : am_Wc p l e R s m args below meth c cells slots Q A G nL pc ls st μ := by
  refine h (fun pc ls st μ μ1 r1 => μ1 = μ' → r1 = r → am_Wc p l e R s m args below meth c cells slots Q A G nL pc ls st μ) ?_ rfl rfl
  intro pc ls st μ μ1 r1 h e1 e2
  subst e1; subst e2
  rcases am_B_ok M pc with ⟨b1, b2⟩ | b
  · exact am_s_x F hC hcs HI (fun t ls st μ hE => hE rfl rfl) _ _ _ _ _ b1 b2 h
  · rw [am_st1, b] at h
    exact h.elim
theorem am_sl_len {G : am_G} (hF : G.vF.category = 1) (a : am_V) : (lg_sl (a.map G.cv)).length = a.length := by
  induction a with
  | nil => rfl
  | cons v a ih =>
    have hc := am_cv_cat hF v
    simp only [lg_sl, List.map_cons, List.flatMap_cons, List.length_append, List.length_cons] at ih ⊢
    rw [ih, if_neg (by omega)]
    simp
    omega
theorem am_args_mem {G : am_G} (hF : G.vF.category = 1) : ∀ (a : am_V) (i k : Nat) (v : Value), a[k]? = some v → (i + k, G.cv v) ∈ lv_args i (a.map G.cv)
  | [], _, _, _, h => by simp at h
  | w :: a, i, 0, v, h => by
    simp only [List.getElem?_cons_zero, Option.some.injEq] at h
    subst h
    exact List.mem_cons_self
  | w :: a, i, k + 1, v, h => by
    have hc := am_cv_cat hF w
    have h1 : a[k]? = some v := by simpa using h
    have h2 := am_args_mem hF a (i + 1) k v h1
    rw [List.map_cons, lv_args, if_neg (by omega)]
    have e : i + (k + 1) = i + 1 + k := by omega
    rw [e]
    exact List.mem_cons_of_mem _ h2
theorem am_lr_entry {G : am_G} (hF : G.vF.category = 1) {n : Nat} {a : am_V} (hn : a.length ≤ n) {lsC : Array Slot} (hl : lv_has lsC n (lv_args 0 (a.map G.cv))) : am_lr G n (am_pad n a) lsC := by
  refine ⟨by simp [am_pad]; omega, hl.1, hl.2.1, fun q hq => ?_⟩
  obtain ⟨k, w⟩ := q
  obtain ⟨v, h1, h2, rfl⟩ := am_prs_mem.mp hq
  have h3 : a[k]? = some v := by
    rw [am_pad, List.getElem?_append] at h1
    split at h1
    · exact h1
    · rw [List.getElem?_replicate] at h1
      split at h1
      · cases h1
        exact absurd rfl h2
      · cases h1
  have h4 := am_args_mem hF a 0 k v h3
  rw [Nat.zero_add] at h4
  exact hl.2.2 _ h4
theorem am_small {x : Int32} (h : Nat.blt (am_ix x) 128 = true) : narrow .byte (.int x) = .int x ∧ narrow .char (.int x) = .int x := by
  have h1 : am_ix x < 128 := Nat.lt_of_succ_le (Nat.le_of_ble_eq_true h)
  have e : x = Int32.ofNat (am_ix x) := by
    obtain ⟨⟨b⟩⟩ := x
    have h0 : BitVec.ofNat 32 b.toNat = b := by simp
    show (⟨⟨b⟩⟩ : Int32) = ⟨⟨BitVec.ofNat 32 b.toNat⟩⟩
    rw [h0]
  have all : ∀ k : Fin 128, narrow .byte (.int (Int32.ofNat k.val)) = .int (Int32.ofNat k.val) ∧ narrow .char (.int (Int32.ofNat k.val)) = .int (Int32.ofNat k.val) := by decide +kernel
  have := all ⟨am_ix x, h1⟩
  rw [← e] at this
  exact this
theorem am_ir.o {z : Nat} {x : Int32} {R : am_R} {μ : am_Mem} {r : Option Value} (h : am_ir z x R μ r) : (z = 0 ∨ Nat.blt (am_ix x) z = true) ∧ R μ r := by
  cases z with
  | zero => exact ⟨Or.inl rfl, h⟩
  | succ n => exact ⟨Or.inr (am_gb.o h).1, (am_gb.o h).2⟩
/-- a method, from its blocks -/
theorem am_meth {C : am_Ct} {d y : Nat} {q : MethodName × ByteArray × Nat × Option FieldType × Nat × Bool} (hy : am_fa am_MT y = some q) (hC : am_hC l (am_rm d) G C) {a : am_V} {μ μ' : am_Mem} {r : Option Value} (ha : a.length ≤ am_mL y) (h : am_ev C y 0 (am_pad (am_mL y) a) [] μ μ' r) : am_Con l G d y a μ μ' r := by
  obtain ⟨o1, o2, o3, o4, o5, o6⟩ := am_MT_ok hy
  obtain ⟨e1, e2, e3, e4⟩ := am_yn_of hy
  refine Met.ofW (cc := am_cd y) (maxL := am_mL y) (ret := am_rt y) (by rw [e1]; exact o6) rfl ?_
  intro p e s m args below meth c s₁ B hml hv
  obtain ⟨rfl, hWd, hKw⟩ := hv
  have hx := B.exec
  have hb := B.bytes
  have hr := B.returns
  have hts := atoms_spec (ws := am_wy y) B.pre
  have hts0 : ∀ w ∈ am_T0, w.before _ s = true := fun w hw => hts w (List.mem_cons_of_mem _ hw)
  have hown : s.vm.findClass (am_cn (y / 100)) = some m.cls := by
    have := findClass_of_methodNamed B.named
    rw [e1, o1] at this
    exact this
  have hlocks := B.notSynchronized
  have hF : G.vF.category = 1 := hKw.2.2.2.2.2.2.1
  have hl := lv_entry (a.map G.cv) (n := am_mL y) (by rw [am_sl_len hF]; exact ha)
  rw [lg_entry_eq]
  generalize (lg_sl (a.map G.cv) ++ List.replicate (am_mL y - (lg_sl (a.map G.cv)).length) Slot.unset).toArray = ls at hl ⊢
  have F : am_Fx p s m (a.map G.cv).toArray c (am_cd y) (am_mL y) (y / 100) (am_Aw G) G := ⟨hx, hb, hml, hown, hts0, hKw, fun _ h => h⟩
  have hrt : am_rty y = am_rt y := by simp only [am_rty, am_rt, hy]
  refine am_frame (M := y) F hC ⟨Nat.zero_le _, Nat.zero_le _⟩ ⟨?_, ?_, ?_⟩ h s.heap [] ls hWd va_S.rf (am_lr_entry hF ha hl)
  · intro pc ls x μ1 hd hk hi H locs lsC hW hS hl
    obtain ⟨hz, hrr, hmm⟩ := am_ir.o hi
    subst hrr; subst hmm
    have fin : ∀ t : State, t.heap = H → s.WarmedH t.vm → am_Qc G (some (.int x)) μ' (a.map G.cv).toArray s (.returned (some (.int x))) t := fun t ht _ => ⟨rfl, by rw [ht]; exact hW, hS.F ht⟩
    rw [hrt] at hk
    cases hrt2 : am_rt y with
    | none => rw [hrt2] at hk; simp [am_rok] at hk
    | some ft =>
      rw [hrt2] at hk
      cases ft with
      | int => exact W.iret hx hb (by rw [hr]; exact hrt2) fin hS.2.2 hd hlocks
      | boolean =>
        have hz2 : am_z y = 2 := Nat.eq_of_beq_eq_true hk
        rw [hz2] at hz
        refine W.zret (ty := .boolean) hx hb (by rw [hr]; exact hrt2) ?_ fin hS.2.2 hd hlocks
        rcases am_b01 (hz.resolve_left (by omega)) with rfl | rfl <;> rfl
      | byte =>
        have hz2 : am_z y = 128 := Nat.eq_of_beq_eq_true hk
        rw [hz2] at hz
        exact W.zret (ty := .byte) hx hb (by rw [hr]; exact hrt2) (am_small (hz.resolve_left (by omega))).1 fin hS.2.2 hd hlocks
      | char =>
        have hz2 : am_z y = 128 := Nat.eq_of_beq_eq_true hk
        rw [hz2] at hz
        exact W.zret (ty := .char) hx hb (by rw [hr]; exact hrt2) (am_small (hz.resolve_left (by omega))).2 fin hS.2.2 hd hlocks
      | _ => simp [am_rok] at hk
  · intro pc ls v μ1 hd hk hav hi H locs lsC hW hS hl
    obtain ⟨hrr, hmm⟩ := hi
    subst hrr; subst hmm
    rw [hrt] at hk
    cases hrt2 : am_rt y with
    | none => rw [hrt2] at hk; simp [am_rok] at hk
    | some ft =>
      rw [hrt2] at hk
      cases ft with
      | object nm =>
        refine W.aret (rt := .object nm) hx hb (by rw [hr]; exact hrt2) (Or.inl ⟨nm, rfl⟩) ?_ (fun t ht _ => ⟨rfl, by rw [ht]; exact hW, hS.F ht⟩) hS.2.2 hd hlocks
        rcases hav with ⟨K, rfl⟩ | ⟨K, rfl⟩ | ⟨K, rfl⟩ <;> exact Or.inr ⟨_, rfl⟩
      | _ => simp [am_rok] at hk
  · intro pc ls μ1 hd hk hi H locs lsC hW hS hl
    obtain ⟨hrr, hmm⟩ := hi
    subst hrr; subst hmm
    rw [hrt] at hk
    cases hrt2 : am_rt y with
    | none => exact W.vret hx hb (by rw [hr]; exact hrt2) (fun t ht _ => ⟨rfl, by rw [ht]; exact hW, hS.F ht⟩) hS.2.2 hd hlocks
    | some ft => rw [hrt2] at hk; simp [am_rok] at hk
theorem am_fa_none {y : Nat} (h : am_fa am_MT y = none) (C : am_Ct) {pc : Nat} {ls st : am_V} {μ μ' : am_Mem} {r : Option Value} (hne : y ≠ 1100) : ¬ am_ev C y pc ls st μ μ' r := by
  intro hev
  have hB : am_fa am_BT y = none := by
    cases hb : am_fa am_BT y with
    | none => rfl
    | some l =>
      exfalso
      have all : am_BT.all (fun q => Nat.beq q.1 1100 || (am_fa am_MT q.1).isSome) = true := by decide +kernel
      have := List.all_eq_true.mp all _ (am_fa_mem hb)
      rw [h] at this
      simp only [Option.isSome_none, Bool.or_false] at this
      exact hne (Nat.eq_of_beq_eq_true this)
  refine hev (fun _ _ _ _ _ _ => False) ?_
  intro pc ls st μ μ1 r1 h1
  have e : am_B y pc = [(.nop, 1)] := by simp only [am_B, hB]
  rw [am_st1, e] at h1
  exact h1.elim
/-- every call of the abstract machine is a contract -/
theorem am_sound (l : Launch) (G : am_G) : ∀ (d y : Nat) (a : am_V) (μ μ' : am_Mem) (r : Option Value), am_call (d + 1) y a μ μ' r → y ≠ 1100 → a.length ≤ am_mL y → Nat.ble 2000 y = false → am_Con l G d y a μ μ' r := by
  intro d
  induction d with
  | zero =>
    intro y a μ μ' r h h11 ha hy
    rw [am_call, hy] at h
    cases hq : am_fa am_MT y with
    | none => exact absurd h (am_fa_none hq _ h11)
    | some q => exact am_meth hq (fun _ _ _ _ _ hc => hc.elim) ha h
  | succ d ih =>
    intro y a μ μ' r h h11 ha hy
    rw [am_call, hy] at h
    cases hq : am_fa am_MT y with
    | none => exact absurd h (am_fa_none hq _ h11)
    | some q =>
      refine am_meth hq (fun y a μ μ' r hc => ⟨⟨d, Nat.le_refl _, Nat.le_refl _, fun h1 h2 h3 => ih y a μ μ' r hc h2 h3 h1⟩, fun e => ?_, fun e => ?_⟩) ha h
      · subst e
        exact hc
      · subst e
        exact hc
end Snd5
