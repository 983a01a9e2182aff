/-! constructors: fields, arrays, calls, the whole run -/
section Cot
variable {p : Program} {l : Launch} {e : Env} {R : Room} {s : State} {m : MethodId} {args : Array Value} {below : List Frame} {meth : Method} {c : Code} {Q : State → Prop} {A : Nat → Prop} {D : va_G} {cA : Nat → ClassId} {nL own pc : Nat} {cc : ByteArray} {ls : Array Slot} {ad : Nat → Nat} {H : Heap} {locs : List Loc} {X X1 : co_St}
theorem co_s_put {idx : Nat} (F : co_Fx p s m args c cc nL own A D cA) (hin : meth.name = "<init>") (h : co_put own idx X = some X1) (hd : decode cc pc = .ok (.putfield idx, 3)) (hW : co_Wd s A D cA X.1 ad H locs) (kk : co_go p l e R s m args below meth c Q A D cA (pc + 3) ls ad X.1.length X1) : W p l e R s m args below meth c H locs X.2.2.1 X.2.2.2 Q (F0 m pc ls (X.2.1.map (co_v ad))) := by
  obtain ⟨hx, hb, hml, hown, hts, hK, hNw, hA⟩ := F
  obtain ⟨hP, hD, hS⟩ := hW
  obtain ⟨σ, st, kc, ks⟩ := X
  rw [co_put] at h
  simp only [] at h
  split at h
  · rename_i v K st1
    split at h
    · rename_i k hk
      split at h
      · rename_i ci fs hσ
        split at h
        · rename_i hh
          simp only [Bool.and_eq_true] at hh
          obtain ⟨h1, h2, h3, h4⟩ := hh
          have h := Option.some.inj h
          subst h
          have h1 := Nat.eq_of_beq_eq_true h1
          subst h1
          have ho := List.all_eq_true.mp co_F_own _ (co_g_mem hk)
          obtain ⟨ho1, ho2⟩ := Bool.and_eq_true_iff.mp ho
          have ho1 := of_decide_eq_true ho1
          have h11 := co_blt ho2
          obtain ⟨hcl, hcn⟩ := co_cl h11
          obtain ⟨t1, t2⟩ := co_tyok h11
          obtain ⟨f1, f2⟩ := co_fit_ok h4 ad
          have he : (co_ws ad cA σ)[K]? = some (ad K, .inr (ci, fs.map (co_v ad))) := co_ws_at hσ
          have hlen : k < (fs.map (co_v ad)).length := by rw [List.length_map]; exact co_blt h2
          have hkN : k < (am_cq ci).2.2 := co_blt h3
          have go : ∀ (H1 : Heap) (locs1 : List Loc), va_P D vwCl ((co_ws ad cA σ).set K (ad K, .inr (ci, (fs.map (co_v ad)).set k (co_v ad v)))) H1 → va_D A ((co_ws ad cA σ).set K (ad K, .inr (ci, (fs.map (co_v ad)).set k (co_v ad v)))) → va_S A s.heap H1 locs1 → W p l e R s m args below meth c H1 locs1 kc ks Q (F0 m (pc + 3) ls (st1.map (co_v ad))) := by
            intro H1 locs1 p1 p2 p3
            have e1 : (co_ws ad cA σ).set K (ad K, .inr (ci, (fs.map (co_v ad)).set k (co_v ad v))) = co_ws ad cA (σ.set K (.inl (ci, fs.set k v))) := by
              rw [co_ws_set, ← List.map_set]
              rfl
            rw [e1] at p1 p2
            exact kk ad H1 locs1 ⟨p1, p2, p3⟩ (fun _ _ => rfl) (by simp)
          have hlink : (Cond.fieldLink (am_cn ci) idx ((am_cq ci).2.1 k).1 ((am_cq ci).2.1 k).2.1 ((am_cq ci).2.1 k).2.2.1).before args s = true := hts _ (co_in3 hk)
          cases hfin : ((am_cq ci).2.1 k).2.2.2 with
          | false => exact va_put (D := D) (ci := ci) (C := (am_cq ci).1) (T := (am_cq ci).2.1) (N := (am_cq ci).2.2) (own := am_cn ci) (v := co_v ad v) (ty := co_ty ci k) hx hb hts (co_in5 hcl) (co_ty ci) t1 t2 hown hK hP hD hS K he hcl k hkN hlink (fun _ h => h) hfin (t1 k hkN) f1 f2 hlen hd go
          | true => exact va_putF (D := D) (ci := ci) (C := (am_cq ci).1) (T := (am_cq ci).2.1) (N := (am_cq ci).2.2) (own := am_cn ci) (v := co_v ad v) (ty := co_ty ci k) hx hb hts (co_in5 hcl) (co_ty ci) t1 t2 hown hK hP hD hS K he hcl k hkN hlink (fun _ h => h) hfin hin ho1 (t1 k hkN) f1 f2 hlen hd go
        · cases h
      · cases h
    · cases h
  · cases h
theorem co_s_get {idx : Nat} (F : co_Fx p s m args c cc nL own A D cA) (h : co_get own idx X = some X1) (hd : decode cc pc = .ok (.getfield idx, 3)) (hW : co_Wd s A D cA X.1 ad H locs) (kk : co_go p l e R s m args below meth c Q A D cA (pc + 3) ls ad X.1.length X1) : W p l e R s m args below meth c H locs X.2.2.1 X.2.2.2 Q (F0 m pc ls (X.2.1.map (co_v ad))) := by
  obtain ⟨hx, hb, hml, hown, hts, hK, hNw, hA⟩ := F
  have hW' := hW
  obtain ⟨hP, hD, hS⟩ := hW
  obtain ⟨σ, st, kc, ks⟩ := X
  rw [co_get] at h
  simp only [] at h
  split at h
  · rename_i K st1
    split at h
    · rename_i k hk
      split at h
      · rename_i ci fs hσ
        split at h
        · rename_i v hv
          split at h
          · rename_i hh
            simp only [Bool.and_eq_true] at hh
            obtain ⟨h1, h3⟩ := hh
            have h := Option.some.inj h
            subst h
            have h1 := Nat.eq_of_beq_eq_true h1
            subst h1
            have ho := List.all_eq_true.mp co_F_own _ (co_g_mem hk)
            obtain ⟨ho1, ho2⟩ := Bool.and_eq_true_iff.mp ho
            have h11 := co_blt ho2
            obtain ⟨hcl, hcn⟩ := co_cl h11
            have he : (co_ws ad cA σ)[K]? = some (ad K, .inr (ci, fs.map (co_v ad))) := co_ws_at hσ
            have hlink : (Cond.fieldLink (am_cn ci) idx ((am_cq ci).2.1 k).1 ((am_cq ci).2.1 k).2.1 ((am_cq ci).2.1 k).2.2.1).before args s = true := hts _ (co_in3 hk)
            exact va_get (D := D) (ci := ci) (C := (am_cq ci).1) (T := (am_cq ci).2.1) (N := (am_cq ci).2.2) (own := am_cn ci) (v := co_v ad v) hx hb hts (co_in5 hcl) hown hK hP K he hcl k (co_blt h3) hlink (fun _ h => h) (by rw [List.getElem?_map, hv]; rfl) hd (kk ad H locs hW' (fun _ _ => rfl) (Nat.le_refl _))
          · cases h
        · cases h
      · cases h
    · cases h
  · cases h
theorem co_s_ast (F : co_Fx p s m args c cc nL own A D cA) (h : co_ast X = some X1) (hd : decode cc pc = .ok (.iastore, 1)) (hW : co_Wd s A D cA X.1 ad H locs) (kk : co_go p l e R s m args below meth c Q A D cA (pc + 1) ls ad X.1.length X1) : W p l e R s m args below meth c H locs X.2.2.1 X.2.2.2 Q (F0 m pc ls (X.2.1.map (co_v ad))) := by
  obtain ⟨hx, hb, hml, hown, hts, hK, hNw, hA⟩ := F
  obtain ⟨hP, hD, hS⟩ := hW
  obtain ⟨σ, st, kc, ks⟩ := X
  rw [co_ast] at h
  simp only [] at h
  split at h
  · rename_i x i K st1
    split at h
    · rename_i n ws hσ
      split at h
      · rename_i hh
        obtain ⟨h1, h2⟩ := Bool.and_eq_true_iff.mp hh
        have h := Option.some.inj h
        subst h
        have h0 : ¬ i < 0 := by simpa using h1
        have h2 := co_blt h2
        refine va_iast (D := D) hx hb hK hP hD hS K 0 (cA := cA 0) (n := n) (f := co_f ws) (co_ws_at hσ) rfl (i := i) (x := x) (fun q => q.elim h0 (fun q => by omega)) hd (fun H1 locs1 p1 p2 p3 => ?_)
        have e1 : (co_ws ad cA σ).set K (ad K, .inl (cA 0, n, .inl (upd (co_f ws) i.toNatClampNeg x))) = co_ws ad cA (σ.set K (.inr (0, n, (i.toNatClampNeg, x) :: ws))) := by
          rw [co_ws_set]
          rfl
        rw [e1] at p1 p2
        exact kk ad H1 locs1 ⟨p1, p2, p3⟩ (fun _ _ => rfl) (by simp)
      · cases h
    · cases h
  · cases h
theorem co_Pc.blind {σ : List co_C} {K sz : Nat} : FrameBlind (co_Pc D cA ad σ K sz) := fun a U g mk q => by
  obtain ⟨q0, q1, q2, q3, q4, q5⟩ := q
  exact ⟨q0, q1, q2, va_K.moved (u := U) (U := U.calling g mk a) (Vm.Alike.refl U.vm) q3, q4, va_Nw.same rfl (u := U) (U := U.calling g mk a) rfl q5⟩
theorem co_s_do {Cl : co_Ct} {y K idx : Nat} {st : List Value} (F : co_Fx p s m args c cc nL own A D cA) (hC : co_hC l R D cA Cl) (hsz : ls.size = nL) (hcall : co_g co_I own idx = some y ∨ (own = 9 ∧ idx = 47 ∧ y = 0)) (h : co_do Cl R.cells R.slots y K st X = some X1) (hd : decode cc pc = .ok (.invokespecial idx, 3)) (hW : co_Wd s A D cA X.1 ad H locs) (kk : co_go p l e R s m args below meth c Q A D cA (pc + 3) ls ad X.1.length X1) : W p l e R s m args below meth c H locs X.2.2.1 X.2.2.2 Q (F0 m pc ls (.ref (ad K) :: st.map (co_v ad))) := by
  obtain ⟨hx, hb, hml, hown, hts, hK, hNw, hA⟩ := F
  obtain ⟨hP, hD, hS⟩ := hW
  obtain ⟨d, hd1, hd2, hcon⟩ := hC
  obtain ⟨σ, st0, kc, ks⟩ := X
  rw [co_do] at h
  split at h
  · rename_i hh
    simp only [Bool.and_eq_true] at hh
    obtain ⟨h1, h2, h34, h5, h6⟩ := hh
    obtain ⟨h3, h4⟩ := Bool.and_eq_true_iff.mp h34
    have h11 := co_blt h1
    split at h
    · rename_i σ' hσ
      split at h
      · rename_i hlen
        have h := Option.some.inj h
        subst h
        have hfree : ∀ q, va_A (co_ws ad cA σ) H.size q → A q := by
          intro q hq
          rcases hq with ⟨k, w, hq⟩ | hq
          · exact hD.2 k _ hq
          · exact hA q (Nat.le_trans hS.1 hq)
        have hcon := hcon y σ K σ' hσ h11 ad H.size
        have hG : GoodIn co_T (co_wy y) := fun w hw => by
          rcases List.mem_cons.mp hw with rfl | hw
          · exact co_T_self _ (co_in1 h11 (by simp [co_wc]))
          · exact co_T_self _ hw
        obtain ⟨n1, n2⟩ := co_names h11
        have hini : (Cond.initialized (co_y y).cls).before args s = true := hts _ (co_in1 h11 (by simp [co_wc, co_y]))
        have hinst : (Cond.instanceMethod (co_y y)).before args s = true := hts _ (co_in1 h11 (by simp [co_wc]))
        have hpre : PreS s H (co_Pc D cA ad σ K H.size) [Value.ref (ad K)] := ⟨co_Pc.blind, fun U hU hWm => ⟨rfl, by rw [hU], by rw [hU]; exact hP, va_K.moved hWm.alike hK, hD.weaken (fun _ _ _ _ => trivial), va_Nw.warmM hWm hNw⟩⟩
        have hroom : (co_rm d y).frames + 1 ≤ R.frames ∧ 8 + (1 + 11) + (co_rm d y).locals ≤ R.locals := ⟨hd1, by show 8 + (1 + 11) + 40 * d ≤ R.locals; omega⟩
        have hcat := lv_room (m := m) (pc := pc) (ls := ls) (rest := .ref (ad K) :: st.map (co_v ad)) (co_cats (st.map (co_v ad)) (by rw [List.length_map]; exact Nat.le_of_ble_eq_true h2))
        have hfit : kc + co_mc y ≤ R.cells ∧ ks + co_ms y ≤ R.slots := ⟨Nat.le_of_ble_eq_true h5, Nat.le_of_ble_eq_true h6⟩
        have run : va_Run p l e R s m args below meth c H locs kc ks (co_mc y) (co_ms y) (F0 m pc ls (.ref (ad K) :: st.map (co_v ad))) (st.map (co_v ad)) (co_Qc D cA ad σ σ' H.size [Value.ref (ad K)].toArray) (va_A (co_ws ad cA σ) H.size) := by
          rcases hcall with hcall | ⟨rfl, rfl, rfl⟩
          · exact va_runI (As := []) (rest := st.map (co_v ad)) ⟨hx, hb, hml, hown, hts⟩ hcon (cwI 0 hts hG rfl rfl rfl hini (hts _ (co_in4 hcall)) hinst rfl n2 hroom) hpre rfl rfl hsz rfl hcat hd hfit
          · exact va_runIN (As := []) (rest := st.map (co_v ad)) ⟨hx, hb, hml, hown, hts⟩ hcon ⟨va_cnB 0 hts hG rfl rfl rfl hNw hini n2 hroom, rfl, hinst⟩ hpre rfl rfl hsz rfl hcat hd hfit
        refine va_callv run hS (fun q _ h => hfree q h) hfree (fun u t H1 locs1 ht hvm hw hB hz1 hk1 hS1 => ?_)
        have k1 := kk u H1 locs1 ⟨by rw [← ht]; exact hB.1, hB.2.weaken (fun _ _ _ h => hfree _ h), hS1⟩ hw (Nat.le_of_ble_eq_true hlen)
        have k2 : W p l e R s m args below meth c H1 locs1 (kc + co_mc y) (ks + co_ms y) Q (F0 m (pc + 3) ls (st.map (co_v u))) := k1
        rw [co_vs_cong hw h4] at k2
        exact k2
      · cases h
    · cases h
  · cases h
theorem co_s_sp {Cl : co_Ct} {idx : Nat} (F : co_Fx p s m args c cc nL own A D cA) (hC : co_hC l R D cA Cl) (hsz : ls.size = nL) (h : co_sp Cl own R.cells R.slots idx X = some X1) (hd : decode cc pc = .ok (.invokespecial idx, 3)) (hW : co_Wd s A D cA X.1 ad H locs) (kk : co_go p l e R s m args below meth c Q A D cA (pc + 3) ls ad X.1.length X1) : W p l e R s m args below meth c H locs X.2.2.1 X.2.2.2 Q (F0 m pc ls (X.2.1.map (co_v ad))) := by
  have F' := F
  obtain ⟨hx, hb, hml, hown, hts, hK, hNw, hA⟩ := F
  obtain ⟨σ, st, kc, ks⟩ := X
  rw [co_sp] at h
  simp only [] at h
  split at h
  · rename_i K st1
    cases ho : co_g co_O own idx with
    | some z =>
      rw [ho] at h
      simp only [] at h
      split at h
      · rename_i h3
        have h := Option.some.inj h
        subst h
        have h3 := Nat.le_of_ble_eq_true h3
        obtain ⟨d, hd1, hd2, -⟩ := hC
        have hcat := lv_room (m := m) (pc := pc) (ls := ls) (rest := .ref (ad K) :: st1.map (co_v ad)) (co_cats (st1.map (co_v ad)) (by rw [List.length_map]; exact h3))
        refine W.objInit (own := am_cn own) (idx := idx) hx hb hown (hts _ (co_inO ho)) (hts _ (co_in6 (by simp [co_w6]))) (hts _ (co_in6 (by simp [co_w6]))) (g := F0 m pc ls (.ref (ad K) :: st1.map (co_v ad))) rfl (by rw [hml]; exact hsz) (a := ad K) (rest := st1.map (co_v ad)) rfl hd (by omega) (by omega) ?_
        refine W.eq (g2 := F0 m (pc + 3) ls (st1.map (co_v ad))) rfl ?_
        exact kk ad H locs hW (fun _ _ => rfl) (Nat.le_refl _)
      · cases h
    | none =>
      rw [ho] at h
      simp only [] at h
      cases hi : co_g co_I own idx with
      | some y =>
        rw [hi] at h
        exact co_s_do F' hC hsz (Or.inl hi) h hd hW kk
      | none =>
        rw [hi] at h
        simp only [] at h
        split at h
        · rename_i h9
          obtain ⟨a1, a2⟩ := Bool.and_eq_true_iff.mp h9
          exact co_s_do F' hC hsz (Or.inr ⟨Nat.eq_of_beq_eq_true a1, Nat.eq_of_beq_eq_true a2, rfl⟩) h hd hW kk
        · cases h
  · cases h
theorem co_s_i {Cl : co_Ct} {th : Nat} {i : Instr} (F : co_Fx p s m args c cc nL own A D cA) (hC : co_hC l R D cA Cl) (hsz : ls.size = nL) (hin : meth.name = "<init>") (hl : ls[0]? = some (.val (.ref (ad th)))) (h : co_i Cl own R.cells R.slots th i X = some X1) (hd : decode cc pc = .ok (i, co_n i)) (hW : co_Wd s A D cA X.1 ad H locs) (kk : co_go p l e R s m args below meth c Q A D cA (pc + co_n i) ls ad X.1.length X1) : W p l e R s m args below meth c H locs X.2.2.1 X.2.2.2 Q (F0 m pc ls (X.2.1.map (co_v ad))) := by
  have hx := F.1
  have hb := F.2.1
  cases i with
  | aload_n k =>
    rw [co_i] at h
    split at h
    · rename_i h0
      have h := Option.some.inj h
      subst h
      exact lv_aload_n hx hb hd (Nat.eq_of_beq_eq_true h0) hl (kk ad H locs hW (fun _ _ => rfl) (Nat.le_refl _))
    · cases h
  | dup =>
    rw [co_i] at h
    obtain ⟨σ, st, kc, ks⟩ := X
    simp only [] at h
    split at h
    · rename_i K st1
      have h := Option.some.inj h
      subst h
      exact lv_dup hx hb hd rfl (kk ad H locs hW (fun _ _ => rfl) (Nat.le_refl _))
    · cases h
  | iconst n =>
    rw [co_i] at h
    have h := Option.some.inj h
    subst h
    exact lv_iconst hx hb hd rfl (kk ad H locs hW (fun _ _ => rfl) (Nat.le_refl _))
  | bipush n =>
    rw [co_i] at h
    have h := Option.some.inj h
    subst h
    exact lv_bipush hx hb hd rfl (kk ad H locs hW (fun _ _ => rfl) (Nat.le_refl _))
  | sipush n =>
    rw [co_i] at h
    have h := Option.some.inj h
    subst h
    exact lv_sipush hx hb hd rfl (kk ad H locs hW (fun _ _ => rfl) (Nat.le_refl _))
  | ldc idx =>
    rw [co_i] at h
    split at h
    · rename_i h9
      obtain ⟨a1, a2⟩ := Bool.and_eq_true_iff.mp h9
      have a1 := Nat.eq_of_beq_eq_true a1
      have a2 := Nat.eq_of_beq_eq_true a2
      subst a1; subst a2
      have h := Option.some.inj h
      subst h
      exact lv_ldc (own := RX10) (index := 51) (v := 131072) hx hb F.2.2.2.1 (F.2.2.2.2.1 _ (co_in6 (by simp [co_w6]))) hd (kk ad H locs hW (fun _ _ => rfl) (Nat.le_refl _))
    · cases h
  | new idx => exact co_s_new F h hd hW kk
  | newarray t => exact co_s_newa F h hd hW kk
  | putfield idx => exact co_s_put F hin h hd hW kk
  | getfield idx => exact co_s_get F h hd hW kk
  | iastore => exact co_s_ast F h hd hW kk
  | invokespecial idx => exact co_s_sp F hC hsz h hd hW kk
  | _ => cases h
theorem co_s_x {Cl : co_Ct} {th n0 : Nat} {ad0 : Nat → Nat} {σ' : List co_C} (F : co_Fx p s m args c cc nL own A D cA) (hC : co_hC l R D cA Cl) (hsz : ls.size = nL) (hin : meth.name = "<init>") (hl : ls[0]? = some (.val (.ref (ad0 th)))) (hth : th < n0)
    (fin : ∀ pc kc ks ad H locs, decode cc pc = .ok (.return_, 1) → kc ≤ R.cells → ks ≤ R.slots → co_Wd s A D cA σ' ad H locs → (∀ j, j < n0 → ad j = ad0 j) → W p l e R s m args below meth c H locs kc ks Q (F0 m pc ls [])) : ∀ (b : List (Instr × Nat)) (pc : Nat) (X : co_St) (ad : Nat → Nat) (H : Heap) (locs : List Loc), co_chk cc pc b = true → co_x Cl own R.cells R.slots th b X = some σ' → co_Wd s A D cA X.1 ad H locs → n0 ≤ X.1.length → (∀ j, j < n0 → ad j = ad0 j) → W p l e R s m args below meth c H locs X.2.2.1 X.2.2.2 Q (F0 m pc ls (X.2.1.map (co_v ad)))
  | [], pc, X, ad, H, locs, _, h, _, _, _ => by cases h
  | q :: b, pc, X, ad, H, locs, hc, h, hW, hn, hag => by
    rw [co_chk] at hc
    obtain ⟨c1, c2⟩ := Bool.and_eq_true_iff.mp hc
    have hd := of_decide_eq_true c1
    rw [co_x] at h
    cases hq : Nat.beq q.2 (co_n q.1) with
    | false => rw [hq] at h; cases h
    | true =>
      rw [hq] at h
      simp only [] at h
      have hq := Nat.eq_of_beq_eq_true hq
      cases hr : co_isr q.1 with
      | true =>
        rw [hr] at h
        simp only [] at h
        have hi : q.1 = .return_ := by
          revert hr
          cases q.1 <;> intro hr <;> first | rfl | cases hr
        obtain ⟨σ, st, kc, ks⟩ := X
        cases st with
        | nil =>
          simp only [] at h
          split at h
          · rename_i hh
            obtain ⟨h1, h2⟩ := Bool.and_eq_true_iff.mp hh
            have h := Option.some.inj h
            subst h
            rw [hi] at hd hq
            rw [hq] at hd
            exact fin pc kc ks ad H locs hd (Nat.le_of_ble_eq_true h1) (Nat.le_of_ble_eq_true h2) hW hag
          · cases h
        | cons v st => cases h
      | false =>
        rw [hr] at h
        simp only [] at h
        cases hi : co_i Cl own R.cells R.slots th q.1 X with
        | none => rw [hi] at h; cases h
        | some X1 =>
          rw [hi] at h
          simp only [] at h
          rw [hq] at hd c2
          exact co_s_i F hC hsz hin (by rw [hag th hth]; exact hl) hi hd hW (fun ad1 H1 locs1 w1 w2 w3 => co_s_x F hC hsz hin hl hth fin b (pc + co_n q.1) X1 ad1 H1 locs1 c2 h w1 (Nat.le_trans hn w3) (fun j hj => by rw [w2 j (Nat.lt_of_lt_of_le hj hn), hag j hj]))
end Cot
theorem co_meth (l : Launch) (D : va_G) (cA : Nat → ClassId) : ∀ (d y : Nat) (σ : List co_C) (K : Nat) (σ' : List co_C), co_call (d + 1) y σ K = some σ' → ∀ ad sz, co_Con l D cA (d + 1) y K ad σ σ' sz
  | d, y, σ, K, σ', h, ad, sz => by
    rw [co_call] at h
    simp only [] at h
    split at h
    · rename_i hh
      obtain ⟨h1, h2⟩ := Bool.and_eq_true_iff.mp hh
      have hK0 := co_blt h1
      have h11 := co_blt h2
      obtain ⟨n1, n2⟩ := co_names h11
      refine Met.ofW (cc := co_cd y) (maxL := 1) (ret := none) n1 rfl ?_
      intro p e s m args below meth c s₁ B hml hv
      obtain ⟨rfl, hsz, hP, hK, hD0, hNw⟩ := hv
      have hx := B.exec
      have hb := B.bytes
      have hr := B.returns
      have hts := atoms_spec (ws := co_wy y) B.pre
      have hts0 : ∀ w ∈ co_T, w.before _ s = true := fun w hw => hts w (List.mem_cons_of_mem _ hw)
      have hown : s.vm.findClass (am_cn y) = some m.cls := findClass_of_methodNamed B.named
      have hlocks := B.notSynchronized
      have hin : meth.name = "<init>" := (name_of_methodNamed B.named B.method).1
      subst hsz
      have hD := hD0.self (sz := s.heap.size)
      have hl := lv_entry ([.ref (ad K)]) (n := 1) (Nat.le_of_ble_eq_true rfl)
      rw [lg_entry_eq]
      generalize (lg_sl ([.ref (ad K)]) ++ List.replicate (1 - (lg_sl ([.ref (ad K)])).length) Slot.unset).toArray = ls at hl ⊢
      have hl : lv_has ls 1 [(0, .ref (ad K))] := hl
      have hC : co_hC l (co_rm (d + 1) y) D cA (co_call d) := by
        refine ⟨d, Nat.le_refl _, Nat.le_refl _, fun y' σ1 K1 σ2 h' hy' ad1 sz1 => ?_⟩
        cases d with
        | zero => cases h'
        | succ d => exact co_meth l D cA d y' σ1 K1 σ2 h' ad1 sz1
      have F : co_Fx p s m [Value.ref (ad K)].toArray c (co_cd y) 1 y (va_A (co_ws ad cA σ) s.heap.size) D cA := ⟨hx, hb, hml, hown, hts0, hK, hNw, fun q hq => Or.inr hq⟩
      refine co_s_x (R := co_rm (d + 1) y) (th := K) (n0 := σ.length) (ad0 := ad) (σ' := σ') F hC hl.1 hin (lv_at hl 0 rfl) hK0 ?_ (co_b y) 0 (σ, [], 0, 0) ad s.heap [] ?_ h ⟨hP, hD, va_S.rf⟩ (Nat.le_refl _) (fun _ _ => rfl)
      · intro pc kc ks ad1 H locs hd hk1 hk2 hW hag
        refine W.widen (k := co_mc y) (n := co_ms y) hk1 hk2 ?_
        exact W.vret hx hb hr (fun t ht hWm => ⟨⟨ad1, rfl, hag, by rw [ht]; exact hW.1, hW.2.1⟩, hW.2.2.F ht⟩) hW.2.2.2.2 hd
      · exact List.all_eq_true.mp co_b_ok y (by
          rcases (show y = 0 ∨ y = 1 ∨ y = 2 ∨ y = 3 ∨ y = 4 ∨ y = 5 ∨ y = 6 ∨ y = 7 ∨ y = 8 ∨ y = 9 ∨ y = 10 by omega) with rfl | rfl | rfl | rfl | rfl | rfl | rfl | rfl | rfl | rfl | rfl <;> decide)
    · cases h
