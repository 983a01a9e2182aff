/-! THE CLAIM OUT OF ONE WALK OF THE LAW'S BODY. Your part is whole_start (and what it stands on); all else here is the same for every law, but numbers. -/
def R_law : String := "NoWordTwiceLaw"
def lw_P (b : Addr) (xs : List Int32) (args : Array Value) (s : State) : Prop := args = #[.ref b] ∧ s.IntsAt b xs ∧ xs.length ≤ 3072 ∧ (Jvm.Cond.and given_1 narrow_1).before args s = true
def lw_Q (_ : Array Value) (s : State) (o : Outcome) (t : State) : Prop := o = .returned (some (.int 1)) ∧ Framed s o t [] 600000 7302250
def lw_Z (below : List Frame) (a : Array Value) (s : State) : State → Prop := fun t => ∃ o, t.status = .running ∧ Ended t below o ∧ lw_Q a s o t
/-- the law's own end, with 1 on the stack, nothing written that was there before, its room as the claim has it -/
theorem lw_ret {p : Program} {l : Launch} {e : Env} {s : State} {m : MethodId} {below : List Frame} {meth : Method} {c : Code} {b : Nat} (hx : p.tables.exec = Jvm.exec) (hb : c.code = code) (hr : meth.sig.returnType = ret) (hlocks : meth.locks = false) {pc : Nat} {H : Heap} {ls : Array Slot} (hdg : decode code pc = .ok (.ireturn, 1)) : W p l e room_1 s m #[Value.ref b] below meth c H [] 600000 7302250 (lw_Z below #[Value.ref b] s) (F0 m pc ls [.int 1]) := by
  intro T hT X
  obtain ⟨fs, hret, hrun, hended, hW, hframe⟩ := X.leave (v := some (.int 1)) (hlocks := hlocks) (fun h => by rw [hr] at h; cases h)
  have hmeth' : T.vm.method? m = some meth := X.method'
  refine ⟨T.setFrames fs, ?_, .returned (some (.int 1)), hrun, hended, rfl, ⟨_, rfl⟩, hW, hframe⟩
  jvm_step X.here [X.here.top, hx, hb, hdg, hmeth', hr, ret, narrow_b1]
  (try refine ⟨rfl, ?_⟩); (try refine ⟨rfl, ?_⟩)
  first | (intro acts; rw [hret _ acts rfl rfl rfl]) | rw [hret _ _ rfl rfl rfl]
  exact Steps.refl _
/-- what holds at the law's entry: the machine, the code, the tables' words (any of lw_tbl by 'hts w (by decide +kernel)'), the script of L ints xs at the cell b, what the Statement gives of the start (any of its parts by flat_of_before) -/
def lw_At (p : Program) (s : State) (m : MethodId) (meth : Method) (c : Code) (b L : Nat) (xs : Nat → Int32) : Prop :=
  p.tables.exec = Jvm.exec ∧ c.code = code ∧ meth.sig.returnType = ret ∧ c.maxLocals = 4 ∧ s.vm.findClass R_law = some m.cls ∧ (∀ w ∈ lw_tbl, w.before #[Value.ref b] s = true) ∧ va_X b L xs s s.heap ∧ b < s.heap.size ∧ meth.locks = false ∧ (Jvm.Cond.and given_1 narrow_1).before #[Value.ref b] s = true
theorem co_e1 : co_call 6 9 co_s0 0 = some co_s1 := by
  obtain ⟨x, hx⟩ := Option.isSome_iff_exists.mp co_r1
  rw [co_s1, hx]
  rfl
theorem co_e2 : co_call 6 10 (co_s1 ++ [.inl (10, co_df 10)]) 56 = some co_s2 := by
  obtain ⟨x, hx⟩ := Option.isSome_iff_exists.mp co_r2
  rw [co_s2, hx]
  rfl
theorem lw_n1 : co_new 11 room_1.cells room_1.slots 7 ([], [], 0, 0) = some (co_s0, [.ref 0], 1, 11) := by
  rw [co_new, show co_g co_N 11 7 = some 9 by decide +kernel]
  simp only []
  rw [show (Nat.blt 9 11 && (co_ok [] [] && (Nat.ble (0 + 1) room_1.cells && Nat.ble (0 + co_nN 9) room_1.slots))) = true by decide +kernel]
  rfl
theorem lw_n2 : co_new 11 room_1.cells room_1.slots 10 (co_s1, [], 56, 8594) = some (co_s1 ++ [.inl (10, co_df 10)], [.ref 56], 57, 8627) := by
  rw [co_new, show co_g co_N 11 10 = some 10 by decide +kernel]
  simp only []
  rw [show (Nat.blt 10 11 && (co_ok co_s1 [] && (Nat.ble (56 + 1) room_1.cells && Nat.ble (8594 + co_nN 10) room_1.slots))) = true by decide +kernel, co_n1]
  rfl
theorem lw_d1 : co_do (co_call 6) room_1.cells room_1.slots 9 0 [.ref 0] (co_s0, [.ref 0], 1, 11) = some (co_s1, [.ref 0], 56, 8594) := by
  rw [co_do, show (Nat.blt 9 11 && (Nat.ble ([.ref 0] : List Value).length 3 && (co_ok (co_s0, [Value.ref 0], 1, 11).1 [.ref 0] && (Nat.ble ((co_s0, [Value.ref 0], 1, 11).2.2.1 + co_mc 9) room_1.cells && Nat.ble ((co_s0, [Value.ref 0], 1, 11).2.2.2 + co_ms 9) room_1.slots)))) = true by decide +kernel]
  simp only []
  rw [co_e1]
  simp only []
  rw [show Nat.ble co_s0.length co_s1.length = true by rw [co_n1]; rfl]
  rfl
theorem lw_d2 : co_do (co_call 6) room_1.cells room_1.slots 10 56 [.ref 56] (co_s1 ++ [.inl (10, co_df 10)], [.ref 56], 57, 8627) = some (co_s2, [.ref 56], 73, 145360) := by
  rw [co_do, show (Nat.blt 10 11 && (Nat.ble ([.ref 56] : List Value).length 3 && (co_ok (co_s1 ++ [.inl (10, co_df 10)], [Value.ref 56], 57, 8627).1 [.ref 56] && (Nat.ble ((co_s1 ++ [.inl (10, co_df 10)], [Value.ref 56], 57, 8627).2.2.1 + co_mc 10) room_1.cells && Nat.ble ((co_s1 ++ [.inl (10, co_df 10)], [Value.ref 56], 57, 8627).2.2.2 + co_ms 10) room_1.slots)))) = true by decide +kernel]
  simp only []
  rw [co_e2]
  simp only []
  rw [show Nat.ble (co_s1 ++ [(.inl (10, co_df 10) : co_C)]).length co_s2.length = true by rw [List.length_append, co_n1, co_n2]; rfl]
  rfl
set_option maxHeartbeats 4000000 in
theorem whole_start {p : Program} {e : Env} {s : State} {m : MethodId} {below : List Frame} {meth : Method} {c : Code} (l : Launch) (hflags : l.flags = flags0) {b L : Nat} {xs : Nat → Int32} (hL : L ≤ 3072) (C0 : lw_At p s m meth c b L xs) : W p l e room_1 s m #[Value.ref b] below meth c s.heap [] 0 0 (lw_Z below #[Value.ref b] s) (entryFrame m ([Value.ref b] : List Value).toArray 4) := by
  obtain ⟨hx, hb, hr, hml, hown, hts, hX, hbl, hlocks, hgv⟩ := C0
  have htc : ∀ w ∈ co_T, w.before #[Value.ref b] s = true := fun w hw => hts w (co_T_in w hw)
  have hta : ∀ w ∈ am_T0, w.before #[Value.ref b] s = true := fun w hw => hts w (am_T0_in w hw)
  obtain ⟨D, cA, hK⟩ := pr_K htc
  have hNw : va_Nw co_nw s := va_Nw.of rfl (hts _ co_nw_in)
  obtain ⟨A, hAe⟩ : ∃ A : Nat → Prop, A = fun q => s.heap.size ≤ q := ⟨_, rfl⟩
  have hA0 : ∀ q : Nat, s.heap.size ≤ q → A q := fun q h => by rw [hAe]; exact h
  have hA1 : ∀ q : Nat, A q → s.heap.size ≤ q := fun q h => by rw [hAe] at h; exact h
  have hAn : ∀ a : Nat, a < s.heap.size → ¬ A a := fun a h h' => Nat.not_lt.mpr (hA1 a h') h
  obtain ⟨aK, aV, hvS, hev⟩ := pr_S (s := s) hgv hAn
  obtain ⟨hZ1, vF, hvF, hZ2⟩ := pr_Z (s := s) hgv hts hAn
  have hvR := pr_R hgv hts hev
  have hl := lv_entry ([.ref b]) (n := 4) (Nat.le_of_ble_eq_true rfl)
  rw [lg_entry_eq]
  generalize (lg_sl ([.ref b]) ++ List.replicate (4 - (lg_sl ([.ref b])).length) Slot.unset).toArray = ls at hl ⊢
  have hl : lv_has ls 4 [(0, .ref b)] := hl
  have F : co_Fx p s m #[Value.ref b] c code 4 11 A D cA := ⟨hx, hb, hml, hown, htc, hK, hNw, hA0⟩
  have hC : co_hC l room_1 D cA (co_call 6) := ⟨6, Nat.le_of_ble_eq_true rfl, Nat.le_of_ble_eq_true rfl, fun y σ K σ' h _ ad sz => co_meth l D cA 5 y σ K σ' h ad sz⟩
  have W0 : co_Wd s A D cA [] (fun _ => 0) s.heap [] := ⟨fun k q h => absurd h (by simp [co_ws]), ⟨fun i j p q h => absurd h (by simp [co_ws]), fun k q h => absurd h (by simp [co_ws])⟩, va_S.rf⟩
  obtain ⟨σ1, hσ1⟩ : ∃ σ, σ = co_s1 := ⟨_, rfl⟩
  obtain ⟨σ2, hσ2⟩ : ∃ σ, σ = co_s2 := ⟨_, rfl⟩
  have n2 := lw_n2
  have d1 := lw_d1
  have d2 := lw_d2
  have l1 := co_n1
  rw [← hσ1] at n2 d1 d2 l1
  rw [← hσ2] at d2
  have l0 : 0 < σ1.length := by rw [l1]; decide
  have l0' : 0 < (σ1 ++ [(.inl (10, co_df 10) : co_C)]).length := by rw [List.length_append, l1]; decide
  refine co_s_new (X := ([], [], 0, 0)) (X1 := (co_s0, [.ref 0], 1, 11)) (ad := fun _ => 0) (idx := 7) (pc := 0) F lw_n1 (by decide +kernel) W0 ?_
  intro ad1 H1 locs1 hW1 _ _
  refine lv_dup (pc := 3) hx hb (by decide +kernel) rfl ?_
  refine co_s_do (own := 11) (y := 9) (K := 0) (idx := 9) (pc := 4) (st := [.ref 0]) (Cl := co_call 6) (X := (co_s0, [.ref 0], 1, 11)) (X1 := (σ1, [.ref 0], 56, 8594)) (ad := ad1) F hC hl.1 (Or.inl rfl) d1 (by decide +kernel) hW1 ?_
  intro ad2 H2 locs2 hW2 _ _
  refine lv_astore_n (pc := 7) (k := 1) hx hb (by decide +kernel) rfl hl (Nat.le_of_ble_eq_true rfl) rfl (fun ls hl => ?_)
  refine co_s_new (X := (σ1, [], 56, 8594)) (X1 := (σ1 ++ [.inl (10, co_df 10)], [.ref 56], 57, 8627)) (ad := ad2) (idx := 10) (pc := 8) F n2 (by decide +kernel) hW2 ?_
  intro ad3 H3 locs3 hW3 hag3 _
  refine lv_dup (pc := 11) hx hb (by decide +kernel) rfl ?_
  refine co_s_do (own := 11) (y := 10) (K := 56) (idx := 12) (pc := 12) (st := [.ref 56]) (Cl := co_call 6) (X := (σ1 ++ [.inl (10, co_df 10)], [.ref 56], 57, 8627)) (X1 := (σ2, [.ref 56], 73, 145360)) (ad := ad3) F hC hl.1 (Or.inl rfl) d2 (by decide +kernel) hW3 ?_
  intro ad4 H4 locs4 hW4 hag4 _
  refine lv_astore_n (pc := 15) (k := 2) hx hb (by decide +kernel) rfl hl (Nat.le_of_ble_eq_true rfl) rfl (fun ls hl => ?_)
  refine lv_iconst (pc := 16) (n := 0) (v := 0) hx hb (by decide +kernel) rfl ?_
  refine lv_istore_n (pc := 17) (k := 3) hx hb (by decide +kernel) rfl hl (Nat.le_of_ble_eq_true rfl) rfl (fun ls hl => ?_)
  have e0 : ad2 0 = ad4 0 := by
    rw [hag4 0 l0', hag3 0 l0]
  rw [e0] at hl
  have hl : lv_has ls 4 [(3, .int 0), (2, .ref (ad4 56)), (1, .ref (ad4 0)), (0, .ref b)] := hl
  obtain ⟨hP4, hD4, hS4⟩ := hW4
  have hP4 : va_P D vwCl (co_ws ad4 cA σ2) H4 := hP4
  have hD4 : va_D A (co_ws ad4 cA σ2) := hD4
  rw [hσ2] at hP4 hD4
  obtain ⟨ad, had⟩ : ∃ ad : Nat → Nat, ad = fun k => if k = 999 then b else ad4 k := ⟨_, rfl⟩
  have had9 : ad 999 = b := by rw [had]; rfl
  have hadk : ∀ k, k < 73 → ad k = ad4 k := fun k hk => by rw [had]; exact if_neg (by omega)
  obtain ⟨μ, hμ⟩ : ∃ μ : am_Mem, μ = fun K => if K = 999 then xs else if K = 998 then (fun _ => Int32.ofNat L) else co_mem co_s2 K := ⟨_, rfl⟩
  have hμ9 : μ 999 = xs := by rw [hμ]; rfl
  have hμ8 : μ 998 0 = Int32.ofNat L := by rw [hμ]; rfl
  have hμk : ∀ K, K < 73 → μ K = co_mem co_s2 K := fun K hK => by
    rw [hμ]
    show (if K = 999 then xs else if K = 998 then (fun _ => Int32.ofNat L) else co_mem co_s2 K) = _
    rw [if_neg (by omega), if_neg (by omega)]
  have hws : am_ws ad cA μ = co_ws ad4 cA co_s2 := co_world hμk hadk
  obtain ⟨G, hG⟩ : ∃ G : am_G, G = (ad, aK, aV, vF, D, cA, b, L, xs) := ⟨_, rfl⟩
  have hat : ∀ k, k < 73 → ∃ q, (co_ws ad4 cA co_s2)[k]? = some (ad4 k, q) := by
    intro k hk
    cases hz : co_s2[k]? with
    | none =>
      have := List.getElem?_eq_none_iff.mp hz
      rw [co_n2] at this
      omega
    | some z => exact ⟨_, co_ws_at hz⟩
  have hinj : ∀ i j : Nat, i < 73 → j < 73 → ad i = ad j → i = j := by
    intro i j hi hj hij
    rw [hadk i hi, hadk j hj] at hij
    obtain ⟨q, hq⟩ := hat i hi
    obtain ⟨r, hr⟩ := hat j hj
    exact hD4.1 i j _ _ hq hr hij
  have hAad : ∀ k : Nat, k < 73 → A (ad k) := by
    intro k hk
    rw [hadk k hk]
    obtain ⟨q, hq⟩ := hat k hk
    exact hD4.2 k _ hq
  have hKw : am_Kw G A s s.heap := by
    rw [hG]
    exact ⟨hK, pr_Nw hts, hvR, hvS, hZ1, hZ2, hvF, hinj, hAad, hX, hbl, hAn b hbl, had9, hL⟩
  have hWd : am_Wd G μ H4 := by
    rw [hG]
    exact ⟨by show va_P D vwCl (am_ws ad cA μ) H4; rw [hws]; exact hP4, hμ9, hμ8⟩
  have hcd : am_cd 1100 = code := by
    unfold am_cd
    rw [show am_fa am_MT 1100 = none by decide +kernel]
  have F2 : am_Fx p s m #[Value.ref b] c (am_cd 1100) 4 (1100 / 100) A G := ⟨hx, by rw [hcd]; exact hb, hml, hown, hta, hKw, fun q hq => by
    obtain ⟨k, hk, rfl⟩ := hq
    have := hAad k hk
    rw [hG]
    exact this⟩
  have hC2 : am_hC l room_1 G (am_call (960 + 40)) := fun y a μ μ' r hc => ⟨⟨999, Nat.le_of_ble_eq_true rfl, Nat.le_of_ble_eq_true rfl, fun h1 h2 h3 => am_sound l G 999 y a μ μ' r hc h2 h3 h1⟩, fun e => by
    subst e
    exact hc, fun e => by
    subst e
    exact hc⟩
  obtain ⟨μ2, hrun⟩ := lp_loop (d := 960) (n := L) (z := xs) hL L 0 0 co_O0 μ (by omega) (by omega) ⟨co_Ic hμk, co_Im hμk, co_Ow, hμ8, hμ9⟩ (by omega)
  have hret : am_ev (am_call (960 + 40)) 1100 18 [.ref 999, .ref 0, .ref 56, .int (nI 0)] [] μ μ2 (some (.int (nI 1))) := by
    rw [hrun]
    exact ⟨rfl, rfl⟩
  refine W.widen (k := 600000) (n := 7302250) (Nat.le_of_ble_eq_true rfl) (Nat.le_of_ble_eq_true rfl) ?_
  refine am_frame (M := 1100) (nL := 4) F2 hC2 ⟨Nat.le_of_ble_eq_true rfl, Nat.le_of_ble_eq_true rfl⟩ ⟨?_, ?_, ?_⟩ hret H4 locs4 ls hWd hS4 ?_
  · intro pc ls x μ1 hd _ hi H locs lsC hW hS hl
    obtain ⟨-, hrr, -⟩ := am_ir.o hi
    have hx1 : x = nI 1 := (Value.int.inj (Option.some.inj hrr)).symm
    rw [show nI 1 = (1 : Int32) by decide] at hx1
    subst hx1
    refine va_forget (fun q hq => hA1 _ (hS.2.2 q hq)) ?_
    rw [hcd] at hd
    exact lw_ret hx hb hr hlocks hd
  · intro pc ls v μ1 hd hk
    exact absurd hk (by decide +kernel)
  · intro pc ls μ1 hd hk
    exact absurd hk (by decide +kernel)
  · refine ⟨rfl, ?_⟩
    rw [hG]
    refine lv_sub hl [3, 2, 1, 0] ?_
    show _ = [(0, Value.ref (ad 999)), (1, Value.ref (ad 0)), (2, Value.ref (ad 56)), (3, Value.int (nI 0))]
    rw [had9, hadk 0 (by decide), hadk 56 (by decide)]
    rfl
