def am_fa {α : Type} : List (Nat × α) → Nat → Option α
  | [], _ => none
  | q :: l, j => match Nat.beq q.1 j with
    | true => some q.2
    | false => am_fa l j
def am_B (M pc : Nat) : List (Instr × Nat) := match am_fa am_BT M with
  | some l => match am_fa l pc with
    | some b => b
    | none => [(.nop, 1)]
  | none => [(.nop, 1)]
def am_z (M : Nat) : Nat := (am_fa am_zT M).getD 0
def am_st1 (C : am_Ct) (M : Nat) (E : am_Kt) : am_Kt := fun pc ls st μ => am_x C (M / 100) (am_z M) E (am_B M pc) pc ls st μ
def am_sub (R R' : am_R) : Prop := ∀ μ' r, R μ' r → R' μ' r
def am_le (E E' : am_Kt) : Prop := ∀ pc ls st μ, am_sub (E pc ls st μ) (E' pc ls st μ)
def am_ev (C : am_Ct) (M : Nat) : am_Kt := fun pc ls st μ μ' r => ∀ P : am_Kt, am_le (am_st1 C M P) P → P pc ls st μ μ' r
theorem am_sub.rf {R : am_R} : am_sub R R := fun _ _ h => h
theorem am_gb.m {b : Bool} {R R' : am_R} (h : am_sub R R') : am_sub (am_gb b R) (am_gb b R') := by
  cases b
  · exact am_sub.rf
  · exact h
theorem am_bI.m {R : am_R} {k k' : Int32 → am_Mem → am_R} (h : ∀ x μ, am_sub (k x μ) (k' x μ)) : am_sub (am_bI R k) (am_bI R k') := fun _ _ ⟨x, μ1, h1, h2⟩ => ⟨x, μ1, h1, h x μ1 _ _ h2⟩
theorem am_bS.m {R : am_R} {k k' : Nat → am_Mem → am_R} (h : ∀ x μ, am_sub (k x μ) (k' x μ)) : am_sub (am_bS R k) (am_bS R k') := fun _ _ ⟨x, μ1, h1, h2⟩ => ⟨x, μ1, h1, h x μ1 _ _ h2⟩
theorem am_bV.m {R : am_R} {k k' : am_Mem → am_R} (h : ∀ μ, am_sub (k μ) (k' μ)) : am_sub (am_bV R k) (am_bV R k') := fun _ _ ⟨μ1, h1, h2⟩ => ⟨μ1, h1, h μ1 _ _ h2⟩
theorem am_ldI.m {k k' : Int32 → am_R} (h : ∀ x, am_sub (k x) (k' x)) : ∀ (ls : am_V) (n : Nat), am_sub (am_ldI ls n k) (am_ldI ls n k')
  | [], _ => fun _ _ h => h
  | v :: l, 0 => by
    unfold am_ldI
    split
    · exact h _
    · exact am_sub.rf
  | v :: l, n + 1 => am_ldI.m h l n
theorem am_isA.m {v : Value} {R R' : am_R} (h : am_sub R R') : am_sub (am_isA v R) (am_isA v R') := by
  unfold am_isA
  split <;> first | exact h | exact am_sub.rf
theorem am_is1.m {v : Value} {R R' : am_R} (h : am_sub R R') : am_sub (am_is1 v R) (am_is1 v R') := by
  unfold am_is1
  split <;> first | exact h | exact am_sub.rf
theorem am_ldA.m {k k' : Value → am_R} (h : ∀ x, am_sub (k x) (k' x)) : ∀ (ls : am_V) (n : Nat), am_sub (am_ldA ls n k) (am_ldA ls n k')
  | [], _ => fun _ _ h => h
  | v :: l, 0 => am_isA.m (h v)
  | v :: l, n + 1 => am_ldA.m h l n
theorem am_sto.m {v : Value} : ∀ (ls : am_V) (n : Nat) {k k' : am_V → am_R} (_ : ∀ x, am_sub (k x) (k' x)), am_sub (am_sto ls n v k) (am_sto ls n v k')
  | [], _, _, _, _ => fun _ _ h => h
  | _ :: l, 0, _, _, h => h _
  | a :: l, n + 1, _, _, h => am_sto.m l n (fun x => h (a :: x))
theorem am_lkE.m {α : Type} {k k' : α → am_R} {e e' : am_R} (h : ∀ x, am_sub (k x) (k' x)) (he : am_sub e e') : ∀ (l : List (Nat × α)) (j : Nat), am_sub (am_lkE l j k e) (am_lkE l j k' e')
  | [], _ => he
  | q :: l, j => by
    unfold am_lkE
    split
    · exact h _
    · exact am_lkE.m h he l j
theorem am_lk2.m {α : Type} {t : List (Nat × List (Nat × α))} {c i : Nat} {k k' : α → am_R} {e e' : am_R} (h : ∀ x, am_sub (k x) (k' x)) (he : am_sub e e') : am_sub (am_lk2 t c i k e) (am_lk2 t c i k' e') := am_lkE.m (fun _ => am_lkE.m h he _ _) he _ _
theorem am_fl.m {own idx : Nat} {k k' : Nat × Nat → am_R} (h : ∀ x, am_sub (k x) (k' x)) : am_sub (am_fl own idx k) (am_fl own idx k') := am_lk2.m h (am_lk2.m h am_sub.rf)
theorem am_cell.m {K : Nat} {kO kO' : Nat → List Nat → am_R} {kA kA' : Nat → Nat → am_R} (h : ∀ a b, am_sub (kO a b) (kO' a b)) (h' : ∀ a b, am_sub (kA a b) (kA' a b)) : am_sub (am_cell K kO kA) (am_cell K kO' kA') := by
  unfold am_cell
  split
  · exact h _ _
  · exact h' _ _
  · exact am_sub.rf
theorem am_obj.m {K ci : Nat} {k k' : List Nat → am_R} (h : ∀ x, am_sub (k x) (k' x)) : am_sub (am_obj K ci k) (am_obj K ci k') := am_cell.m (fun _ _ => am_gb.m (h _)) (fun _ _ => am_sub.rf)
theorem am_getf.m {own idx : Nat} {v : Value} {μ : am_Mem} {k k' : Value → am_R} (h : ∀ x, am_sub (k x) (k' x)) : am_sub (am_getf own idx v μ k) (am_getf own idx v μ k') := by
  unfold am_getf
  split
  · refine am_fl.m fun _ => am_obj.m fun _ => ?_
    split <;> first | exact h _ | exact am_sub.rf
  · refine am_gb.m (am_gb.m ?_)
    split
    · exact h _
    · split
      · exact h _
      · exact am_sub.rf
  · exact am_sub.rf
theorem am_putf.m {own idx K : Nat} {x : Int32} {μ : am_Mem} {k k' : am_Mem → am_R} (h : ∀ x, am_sub (k x) (k' x)) : am_sub (am_putf own idx K x μ k) (am_putf own idx K x μ k') := by
  unfold am_putf
  refine am_fl.m fun _ => am_obj.m fun _ => ?_
  split
  · exact h _
  · exact am_gb.m (h _)
  · exact am_sub.rf
theorem am_arr.m {K t : Nat} {k k' : Nat → am_R} (h : ∀ x, am_sub (k x) (k' x)) : am_sub (am_arr K t k) (am_arr K t k') := am_cell.m (fun _ _ => am_sub.rf) (fun _ _ => am_gb.m (h _))
theorem am_iald.m {v : Value} {i : Int32} {μ : am_Mem} {k k' : Int32 → am_R} (h : ∀ x, am_sub (k x) (k' x)) : am_sub (am_iald v i μ k) (am_iald v i μ k') := by
  unfold am_iald
  split
  · split
    · exact am_gb.m (h _)
    · exact am_arr.m fun _ => am_gb.m (h _)
  · exact am_sub.rf
theorem am_bald.m {v : Value} {i : Int32} {μ : am_Mem} {k k' : Int32 → am_R} (h : ∀ x, am_sub (k x) (k' x)) : am_sub (am_bald v i μ k) (am_bald v i μ k') := by
  unfold am_bald
  split
  · exact am_cell.m (fun _ _ => am_sub.rf) fun _ _ => am_gb.m (am_gb.m (am_gb.m (h _)))
  · exact am_gb.m (am_gb.m (h _))
  · exact am_sub.rf
theorem am_bast.m {K : Nat} {i x : Int32} {μ : am_Mem} {k k' : am_Mem → am_R} (h : ∀ x, am_sub (k x) (k' x)) : am_sub (am_bast K i x μ k) (am_bast K i x μ k') := am_cell.m (fun _ _ => am_sub.rf) fun _ _ => am_gb.m (am_gb.m (am_gb.m (h _)))
theorem am_alen.m {v : Value} {μ : am_Mem} {k k' : Int32 → am_R} (h : ∀ x, am_sub (k x) (k' x)) : am_sub (am_alen v μ k) (am_alen v μ k') := by
  unfold am_alen
  split
  · split
    · exact h _
    · exact am_cell.m (fun _ _ => am_sub.rf) fun _ _ => h _
  · exact am_gb.m (h _)
  · exact am_sub.rf
theorem am_p1.m {st : am_V} {k k' : Int32 → am_V → am_R} (h : ∀ x s, am_sub (k x s) (k' x s)) : am_sub (am_p1 st k) (am_p1 st k') := by
  unfold am_p1
  split
  · split
    · exact h _ _
    · exact am_sub.rf
  · exact am_sub.rf
theorem am_bA.m {st : am_V} {k k' : Value → am_V → am_R} (h : ∀ x s, am_sub (k x s) (k' x s)) : am_sub (am_bA st k) (am_bA st k') := by
  unfold am_bA
  split
  · exact h _ _
  · exact am_sub.rf
theorem am_bF.m {st : am_V} {k k' : Nat → am_V → am_R} (h : ∀ x s, am_sub (k x s) (k' x s)) : am_sub (am_bF st k) (am_bF st k') := by
  unfold am_bF
  split
  · split
    · exact h _ _
    · exact am_sub.rf
  · exact am_sub.rf
theorem am_p2.m {st : am_V} {k k' : Int32 → Int32 → am_V → am_R} (h : ∀ x y s, am_sub (k x y s) (k' x y s)) : am_sub (am_p2 st k) (am_p2 st k') := am_p1.m fun _ _ => am_p1.m fun _ _ => h _ _ _
theorem am_pop.m {k k' : am_V → am_V → am_R} (h : ∀ x s, am_sub (k x s) (k' x s)) : ∀ (n : Nat) (st acc : am_V), am_sub (am_pop n st acc k) (am_pop n st acc k')
  | 0, _, _ => h _ _
  | n + 1, v :: st, acc => am_pop.m h n st (v :: acc)
  | _ + 1, [], _ => am_sub.rf
theorem am_rc.m {y : Nat} {a : am_V} {R R' : am_R} (h : am_sub R R') : am_sub (am_rc y a R) (am_rc y a R') := by
  unfold am_rc
  split
  · split
    · exact am_obj.m fun _ => h
    · exact am_gb.m (am_gb.m h)
    · exact am_sub.rf
  · exact am_sub.rf
theorem am_back.m {kd : Nat} {R : am_R} {st : am_V} {k k' : am_V → am_Mem → am_R} (h : ∀ x s, am_sub (k x s) (k' x s)) : am_sub (am_back kd R st k) (am_back kd R st k') := by
  unfold am_back
  split
  · exact am_bV.m fun _ => h _ _
  · exact am_bI.m fun _ _ => h _ _
  · exact am_bS.m fun _ _ => h _ _
theorem am_inv.m {C : am_Ct} {own idx : Nat} {stc : Bool} {st : am_V} {μ : am_Mem} {k k' : am_V → am_Mem → am_R} (h : ∀ x s, am_sub (k x s) (k' x s)) : am_sub (am_inv C own idx stc st μ k) (am_inv C own idx stc st μ k') := by
  unfold am_inv
  refine am_lk2.m (fun _ => am_pop.m (fun _ _ => am_gb.m ?_) _ _ _) am_sub.rf
  split
  · exact am_back.m h
  · exact am_rc.m (am_back.m h)
theorem am_sw.m {E E' : Nat → am_R} {pc : Nat} {x : Int32} {d : Int} (h : ∀ t, am_sub (E t) (E' t)) : ∀ (os : List Int) (lo : Int), am_sub (am_sw E pc x d lo os) (am_sw E' pc x d lo os)
  | [], _ => h _
  | o :: os, lo => by
    unfold am_sw
    split
    · exact h _
    · exact am_sw.m h os _
theorem am_lsw.m {E E' : Nat → am_R} {pc : Nat} {x : Int32} {d : Int} (h : ∀ t, am_sub (E t) (E' t)) : ∀ (os : List (Int × Int)), am_sub (am_lsw E pc x d os) (am_lsw E' pc x d os)
  | [] => h _
  | o :: os => by
    unfold am_lsw
    split
    · exact h _
    · exact am_lsw.m h os
theorem am_if.m {P : Prop} (d : Decidable P) {a b a' b' : am_R} (h : am_sub a a') (h' : am_sub b b') : am_sub (@ite _ P d a b) (@ite _ P d a' b') := by
  split
  · exact h
  · exact h'
set_option maxHeartbeats 4000000 in
theorem am_i.m {C : am_Ct} {own z : Nat} {E E' : am_Kt} (hE : am_le E E') {i : Instr} {pc : Nat} {ls st : am_V} {μ : am_Mem} {κ κ' : am_V → am_V → am_Mem → am_R} (h : ∀ ls st μ, am_sub (κ ls st μ) (κ' ls st μ)) : am_sub (am_i C own z E i pc ls st μ κ) (am_i C own z E' i pc ls st μ κ') := by
  unfold am_i
  split
  all_goals first
    | exact am_sub.rf
    | exact h _ _ _
    | exact hE _ _ _ _
    | exact am_lk2.m (fun _ => h _ _ _) (am_lk2.m (fun _ => h _ _ _) am_sub.rf)
    | exact am_lk2.m (fun _ => h _ _ _) am_sub.rf
    | exact am_ldI.m (fun _ => h _ _ _) _ _
    | exact am_ldA.m (fun _ => h _ _ _) _ _
    | exact am_p1.m fun _ _ => am_sto.m _ _ fun _ => h _ _ _
    | exact am_ldI.m (fun _ => am_sto.m _ _ fun _ => h _ _ _) _ _
    | exact am_bA.m fun _ _ => am_getf.m fun _ => h _ _ _
    | exact am_p1.m fun _ _ => am_bF.m fun _ _ => am_putf.m fun _ => h _ _ _
    | exact am_p1.m fun _ _ => am_bA.m fun _ _ => am_iald.m fun _ => h _ _ _
    | exact am_p1.m fun _ _ => am_bA.m fun _ _ => am_bald.m fun _ => h _ _ _
    | exact am_p2.m fun _ _ _ => am_bF.m fun _ _ => am_arr.m fun _ => am_gb.m (h _ _ _)
    | exact am_p2.m fun _ _ _ => am_bF.m fun _ _ => am_bast.m fun _ => h _ _ _
    | exact am_bA.m fun _ _ => am_alen.m fun _ => h _ _ _
    | exact am_p2.m fun _ _ _ => h _ _ _
    | exact am_p2.m fun _ _ _ => am_gb.m (h _ _ _)
    | exact am_p1.m fun _ _ => h _ _ _
    | exact am_bA.m fun _ _ => am_is1.m (h _ _ _)
    | exact am_bA.m fun _ _ => am_bA.m fun _ _ => am_is1.m (am_is1.m (h _ _ _))
    | exact am_p1.m fun _ _ => am_if.m _ (hE _ _ _ _) (h _ _ _)
    | exact am_p1.m fun _ _ => am_if.m _ (h _ _ _) (hE _ _ _ _)
    | exact am_p2.m fun _ _ _ => am_if.m _ (hE _ _ _ _) (h _ _ _)
    | exact am_p2.m fun _ _ _ => am_if.m _ (h _ _ _) (hE _ _ _ _)
    | exact am_p1.m fun _ _ => am_sw.m (fun _ => hE _ _ _ _) _ _
    | exact am_p1.m fun _ _ => am_lsw.m (fun _ => hE _ _ _ _) _
    | exact am_inv.m fun _ _ => h _ _ _
    | skip
  refine am_gb.m ?_
  split
  · exact h _ _ _
  · split
    · exact h _ _ _
    · exact am_sub.rf
theorem am_x.m {C : am_Ct} {own z : Nat} {E E' : am_Kt} (hE : am_le E E') : ∀ (b : List (Instr × Nat)) (pc : Nat) (ls st : am_V) (μ : am_Mem), am_sub (am_x C own z E b pc ls st μ) (am_x C own z E' b pc ls st μ)
  | [], _, _, _, _ => hE _ _ _ _
  | _ :: b, _, _, _, _ => am_i.m hE fun _ _ _ => am_x.m hE b _ _ _ _
theorem am_ev_in (C : am_Ct) (M : Nat) : am_le (am_st1 C M (am_ev C M)) (am_ev C M) := fun pc ls st μ μ' r h P hP => hP pc ls st μ μ' r (am_x.m (fun _ _ _ _ _ _ h => h P hP) _ _ _ _ _ μ' r h)
theorem am_ev_out (C : am_Ct) (M : Nat) : am_le (am_ev C M) (am_st1 C M (am_ev C M)) := fun pc ls st μ μ' r h => h _ fun _ _ _ _ μ' r h => am_x.m (am_ev_in C M) _ _ _ _ _ μ' r h
/-- a block: the machine at its head is the machine behind it -/
theorem am_blk {C : am_Ct} {M pc own z : Nat} {b : List (Instr × Nat)} (hb : am_B M pc = b) (ho : M / 100 = own) (hz : am_z M = z) (ls st : am_V) (μ : am_Mem) : am_ev C M pc ls st μ = am_x C own z (am_ev C M) b pc ls st μ := by
  subst hb; subst ho; subst hz
  funext μ' r
  exact propext ⟨am_ev_out C M pc ls st μ μ' r, am_ev_in C M pc ls st μ μ' r⟩
def am_pad (n : Nat) (a : am_V) : am_V := a ++ List.replicate (n - a.length) .null
def am_mL (y : Nat) : Nat := match am_fa am_MT y with
  | some q => q.2.2.1
  | none => 0
def am_copy (a : am_V) (μ : am_Mem) : am_R := match a with
  | [.ref K0, .int sp, .ref K1, .int dp, .int n] => am_arr K0 0 (fun n0 => am_arr K1 0 (fun n1 => am_gb (Nat.ble (am_ix sp + am_ix n) n0) (am_gb (Nat.ble (am_ix dp + am_ix n) n1) (am_ret none (am_cp μ K0 K1 (am_ix sp) (am_ix dp) (am_ix n))))))
  | _ => am_no
def am_max (a : am_V) (μ : am_Mem) : am_R := match a with
  | [.int x, .int y] => am_ret (some (.int (if x < y then y else x))) μ
  | _ => am_no
def am_call : Nat → am_Ct
  | 0, _, _, _ => am_no
  | d + 1, y, a, μ => match Nat.ble 2000 y with
    | true => match Nat.beq y 2004 with
      | true => am_copy a μ
      | false => match Nat.beq y 2001 with
        | true => am_max a μ
        | false => am_no
    | false => am_ev (am_call d) y 0 (am_pad (am_mL y) a) [] μ
