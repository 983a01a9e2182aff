section Snd2
variable {p : Program} {l : Launch} {e : Env} {R : Room} {s : State} {m : MethodId} {args : Array Value} {below : List Frame} {meth : Method} {c : Code} {cells slots : Nat} {Q : State → Prop} {A : Nat → Prop} {G : am_G} {nL own : Nat} {cc : ByteArray}
theorem am_tys_at (cA : Nat → ClassId) {t : Nat} (h : t < 3) : (am_tys cA)[t]? = some (cA t, match t with
    | 0 => FieldType.int
    | 1 => .byte
    | _ => .boolean) := by
  rcases (show t = 0 ∨ t = 1 ∨ t = 2 by omega) with rfl | rfl | rfl <;> rfl
theorem am_s_iald {pc : Nat} {v : Value} {i : Int32} {k : Int32 → am_R} {ls st : am_V} {μ : am_Mem} {μ' : am_Mem} {r : Option Value} (F : am_Fx p s m args c cc nL own A G) (hd : decode cc pc = .ok (.iaload, 1)) (h : am_iald v i μ k μ' r)
    (kk : ∀ x, k x μ' r → am_Wc p l e R s m args below meth c cells slots Q A G nL (pc + 1) ls (.int x :: st) μ) : am_Wc p l e R s m args below meth c cells slots Q A G nL pc ls (.int i :: v :: st) μ := by
  intro H locs lsC hW hS hl
  obtain ⟨hx, hb, hml, hown, hts, hK, hAw⟩ := F
  obtain ⟨k1, k2, k3, k4, k5, k6, k7, k8, k9, k10, k11, k12, k13, k14⟩ := id hK
  unfold am_iald at h
  split at h
  · rename_i K
    cases h0 : Nat.beq K 999 with
    | true =>
      rw [h0] at h
      have e := Nat.eq_of_beq_eq_true h0
      subst e
      obtain ⟨h1, h⟩ := am_gb.o h
      have e1 : am_ix (μ 998 0) = G.L := by
        rw [hW.2.2]
        show (UInt32.ofNat G.L).toNat = G.L
        rw [UInt32.toNat_ofNat']
        omega
      rw [e1] at h1
      obtain ⟨h2, h3⟩ := am_ixIn (by omega) h1
      have kk2 := kk _ h H locs lsC hW hS hl
      rw [hW.2.1, ← h3] at kk2
      have g := va_sld (A := A) hx hb k10 k11 k12 hS h2 hd kk2
      rw [← k13] at g
      exact g
    | false =>
      rw [h0] at h
      obtain ⟨n, hL, h⟩ := am_arr.o h
      obtain ⟨h1, h⟩ := am_gb.o h
      obtain ⟨h2, h3⟩ := am_ixIn (by have := (am_L_arr hL).2; omega) h1
      have kk2 := kk _ h H locs lsC hW hS hl
      rw [← h3] at kk2
      exact va_iald (D := G.D) (cl := vwCl) hx hb k1 hW.1 K 0 (am_ws_at hL) rfl h2 hd kk2
  · exact h.elim
theorem am_s_bald {pc : Nat} {v : Value} {i : Int32} {k : Int32 → am_R} {ls st : am_V} {μ : am_Mem} {μ' : am_Mem} {r : Option Value} (F : am_Fx p s m args c cc nL own A G) (hd : decode cc pc = .ok (.baload, 1)) (h : am_bald v i μ k μ' r)
    (kk : ∀ x, k x μ' r → am_Wc p l e R s m args below meth c cells slots Q A G nL (pc + 1) ls (.int x :: st) μ) : am_Wc p l e R s m args below meth c cells slots Q A G nL pc ls (.int i :: v :: st) μ := by
  intro H locs lsC hW hS hl
  obtain ⟨hx, hb, hml, hown, hts, hK, hAw⟩ := F
  obtain ⟨k1, k2, k3, k4, k5, k6, k7, k8, k9, k10, k11, k12, k13, k14⟩ := id hK
  unfold am_bald at h
  split at h
  · rename_i K
    rcases am_cell.o h with ⟨q, -, h⟩ | ⟨⟨t, n⟩, hL, h⟩
    · exact h.elim
    obtain ⟨t1, h⟩ := am_gb.o h
    obtain ⟨t2, h⟩ := am_gb.o h
    obtain ⟨h1, h⟩ := am_gb.o h
    obtain ⟨h2, h3⟩ := am_ixIn (by have := (am_L_arr hL).2; omega) h1
    have kk2 := kk _ h H locs lsC hW hS hl
    rw [← h3] at kk2
    have u1 : 0 < t := Nat.lt_of_succ_le (Nat.le_of_ble_eq_true t1)
    have u2 : t < 3 := Nat.lt_of_succ_le (Nat.le_of_ble_eq_true t2)
    rcases (show t = 1 ∨ t = 2 by omega) with rfl | rfl
    · exact va_bald (D := G.D) (cl := vwCl) hx hb k1 hW.1 K 1 (am_ws_at hL) rfl h2 hd kk2
    · exact va_zald (D := G.D) (cl := vwCl) hx hb k1 hW.1 K 2 (am_ws_at hL) rfl h2 hd kk2
  · rename_i u
    obtain ⟨h0, h⟩ := am_gb.o h
    obtain ⟨h1, h⟩ := am_gb.o h
    have hu : u.toNat < 13 := Nat.lt_of_succ_le (Nat.le_of_ble_eq_true h0)
    have hle : am_slen u.toNat ≤ 2147483648 := by
      have : ∀ i, i < 13 → am_slen i ≤ 2147483648 := by decide
      exact this _ hu
    obtain ⟨h2, h3⟩ := am_ixIn hle h1
    exact va_tb hx hb (k4.1 _ hu).2.2.2 hS h2 (v := .int (am_sch u.toNat (am_ix i))) (by rw [h3]; rfl) hd (kk _ h H locs lsC hW hS hl)
  · exact h.elim
theorem am_s_iast {pc K n : Nat} {i x : Int32} {ls st : am_V} {μ : am_Mem} (F : am_Fx p s m args c cc nL own A G) (hd : decode cc pc = .ok (.iastore, 1)) (hL : am_L[K]? = some (.inr (0, n))) (h1 : Nat.blt (am_ix i) n = true)
    (kk : am_Wc p l e R s m args below meth c cells slots Q A G nL (pc + 1) ls st (am_up μ K (am_ix i) x)) : am_Wc p l e R s m args below meth c cells slots Q A G nL pc ls (.int x :: .int i :: .ref K :: st) μ := by
  intro H locs lsC hW hS hl
  obtain ⟨hx, hb, hml, hown, hts, hK, hAw⟩ := F
  have hD := am_Wd.D (G := G) (μ := μ) hK
  obtain ⟨h2, h3⟩ := am_ixIn (by have := (am_L_arr hL).2; omega) h1
  refine va_iast (D := G.D) (cl := vwCl) hx hb hK.1 hW.1 hD hS K 0 (am_ws_at hL) rfl h2 hd fun H1 locs1 hP1 _ hS1 => ?_
  exact kk H1 locs1 lsC (am_Wd.arr hL (fun K' h => am_up_ne h) (by rw [am_up_at, h3]) hW.2 hP1) hS1 hl
theorem am_s_bast {pc K : Nat} {i x : Int32} {k : am_Mem → am_R} {ls st : am_V} {μ : am_Mem} {μ' : am_Mem} {r : Option Value} (F : am_Fx p s m args c cc nL own A G) (hd : decode cc pc = .ok (.bastore, 1)) (h : am_bast K i x μ k μ' r)
    (kk : ∀ μ1, k μ1 μ' r → am_Wc p l e R s m args below meth c cells slots Q A G nL (pc + 1) ls st μ1) : am_Wc p l e R s m args below meth c cells slots Q A G nL pc ls (.int x :: .int i :: .ref K :: st) μ := by
  intro H locs lsC hW hS hl
  obtain ⟨hx, hb, hml, hown, hts, hK, hAw⟩ := F
  have hD := am_Wd.D (G := G) (μ := μ) hK
  rcases am_cell.o h with ⟨q, -, h⟩ | ⟨⟨t, n⟩, hL, h⟩
  · exact h.elim
  obtain ⟨t1, h⟩ := am_gb.o h
  obtain ⟨t2, h⟩ := am_gb.o h
  obtain ⟨h1, h⟩ := am_gb.o h
  obtain ⟨h2, h3⟩ := am_ixIn (by have := (am_L_arr hL).2; omega) h1
  have u1 : 0 < t := Nat.lt_of_succ_le (Nat.le_of_ble_eq_true t1)
  have u2 : t < 3 := Nat.lt_of_succ_le (Nat.le_of_ble_eq_true t2)
  rcases (show t = 1 ∨ t = 2 by omega) with rfl | rfl
  · refine va_bast (D := G.D) (cl := vwCl) hx hb hK.1 hW.1 hD hS K 1 (am_ws_at hL) rfl h2 hd fun H1 locs1 hP1 _ hS1 => ?_
    exact kk _ h H1 locs1 lsC (am_Wd.arr hL (fun K' h => am_up_ne h) (by rw [am_up_at, h3]; rfl) hW.2 hP1) hS1 hl
  · refine va_zast (D := G.D) (cl := vwCl) hx hb hK.1 hW.1 hD hS K 2 (am_ws_at hL) rfl h2 hd fun H1 locs1 hP1 _ hS1 => ?_
    exact kk _ h H1 locs1 lsC (am_Wd.arr hL (fun K' h => am_up_ne h) (by rw [am_up_at, h3]; rfl) hW.2 hP1) hS1 hl
theorem am_s_alen {pc : Nat} {v : Value} {k : Int32 → am_R} {ls st : am_V} {μ : am_Mem} {μ' : am_Mem} {r : Option Value} (F : am_Fx p s m args c cc nL own A G) (hd : decode cc pc = .ok (.arraylength, 1)) (h : am_alen v μ k μ' r)
    (kk : ∀ x, k x μ' r → am_Wc p l e R s m args below meth c cells slots Q A G nL (pc + 1) ls (.int x :: st) μ) : am_Wc p l e R s m args below meth c cells slots Q A G nL pc ls (v :: st) μ := by
  intro H locs lsC hW hS hl
  obtain ⟨hx, hb, hml, hown, hts, hK, hAw⟩ := F
  obtain ⟨k1, k2, k3, k4, k5, k6, k7, k8, k9, k10, k11, k12, k13, k14⟩ := id hK
  unfold am_alen at h
  split at h
  · rename_i K
    cases h0 : Nat.beq K 999 with
    | true =>
      rw [h0] at h
      have e := Nat.eq_of_beq_eq_true h0
      subst e
      have kk2 := kk _ h H locs lsC hW hS hl
      rw [hW.2.2] at kk2
      have g := va_slen (A := A) hx hb k10 k11 k12 hS hd kk2
      rw [← k13] at g
      exact g
    | false =>
      rw [h0] at h
      rcases am_cell.o h with ⟨q, -, h⟩ | ⟨⟨t, n⟩, hL, h⟩
      · exact h.elim
      have ht := (am_L_arr hL).1
      exact va_alen (D := G.D) (cl := vwCl) hx hb k1 hW.1 K t (am_ws_at hL) (am_tys_at G.cA ht) rfl hd (kk _ h H locs lsC hW hS hl)
  · rename_i u
    obtain ⟨h0, h⟩ := am_gb.o h
    have hu : u.toNat < 13 := Nat.lt_of_succ_le (Nat.le_of_ble_eq_true h0)
    exact va_tlen hx hb (k4.1 _ hu).2.2.2 hS rfl hd (kk _ h H locs lsC hW hS hl)
  · exact h.elim
theorem am_s_ldI {pc i n : Nat} {x : Int32} {ls st : am_V} {μ : am_Mem} (F : am_Fx p s m args c cc nL own A G) (hd : decode cc pc = .ok (.iload i, 2)) (h : ls[i]? = some (.int x))
    (kk : am_Wc p l e R s m args below meth c cells slots Q A G nL (pc + 2) ls (.int x :: st) μ) : am_Wc p l e R s m args below meth c cells slots Q A G nL pc ls st μ := fun H locs lsC hW hS hl => lv_iload F.1 F.2.1 hd (hl.at h (fun h => by cases h)) (kk H locs lsC hW hS hl)
theorem am_s_ldA {pc : Nat} {i : Fin 4} {v : Value} {ls st : am_V} {μ : am_Mem} (F : am_Fx p s m args c cc nL own A G) (hd : decode cc pc = .ok (.aload_n i, 1)) (h : ls[i.val]? = some v) (hv : am_Av v)
    (kk : am_Wc p l e R s m args below meth c cells slots Q A G nL (pc + 1) ls (v :: st) μ) : am_Wc p l e R s m args below meth c cells slots Q A G nL pc ls st μ := by
  intro H locs lsC hW hS hl
  rcases hv with ⟨K, rfl⟩ | ⟨K, rfl⟩ | ⟨K, rfl⟩
  · exact lv_aload_n F.1 F.2.1 hd rfl (hl.at h (fun h => by cases h)) (kk H locs lsC hW hS hl)
  · exact lv_aload_n F.1 F.2.1 hd rfl (hl.at h (fun h => by cases h)) (kk H locs lsC hW hS hl)
  · exact lv_aload_n F.1 F.2.1 hd rfl (hl.at h (fun h => by cases h)) (kk H locs lsC hW hS hl)
theorem am_s_sto {pc i : Nat} {x : Int32} {ls st : am_V} {μ : am_Mem} (F : am_Fx p s m args c cc nL own A G) (hd : decode cc pc = .ok (.istore i, 2)) (hi : i < ls.length)
    (kk : am_Wc p l e R s m args below meth c cells slots Q A G nL (pc + 2) (ls.set i (.int x)) st μ) : am_Wc p l e R s m args below meth c cells slots Q A G nL pc ls (.int x :: st) μ := by
  intro H locs lsC hW hS hl
  have hF : G.vF.category = 1 := F.2.2.2.2.2.1.2.2.2.2.2.2.1
  exact lv_istore F.1 F.2.1 hd hl.2 (by rw [← hl.1]; exact hi) rfl fun ls' h' => kk H locs ls' hW hS (am_lr.set hF hl.1 h')
theorem am_s_ston {pc : Nat} {i : Fin 4} {x : Int32} {ls st : am_V} {μ : am_Mem} (F : am_Fx p s m args c cc nL own A G) (hd : decode cc pc = .ok (.istore_n i, 1)) (hi : i.val < ls.length)
    (kk : am_Wc p l e R s m args below meth c cells slots Q A G nL (pc + 1) (ls.set i.val (.int x)) st μ) : am_Wc p l e R s m args below meth c cells slots Q A G nL pc ls (.int x :: st) μ := by
  intro H locs lsC hW hS hl
  have hF : G.vF.category = 1 := F.2.2.2.2.2.1.2.2.2.2.2.2.1
  exact lv_istore_n F.1 F.2.1 hd rfl hl.2 (by rw [← hl.1]; exact hi) rfl fun ls' h' => kk H locs ls' hW hS (am_lr.set hF hl.1 h')
theorem am_s_iinc {pc i : Nat} {n : Int} {x : Int32} {ls st : am_V} {μ : am_Mem} (F : am_Fx p s m args c cc nL own A G) (hd : decode cc pc = .ok (.iinc i n, 3)) (hn : Int32.ofInt n = am_c n) (h : ls[i]? = some (.int x))
    (kk : am_Wc p l e R s m args below meth c cells slots Q A G nL (pc + 3) (ls.set i (.int (x + am_c n))) st μ) : am_Wc p l e R s m args below meth c cells slots Q A G nL pc ls st μ := by
  intro H locs lsC hW hS hl
  have hF : G.vF.category = 1 := F.2.2.2.2.2.1.2.2.2.2.2.2.1
  have hi : i < nL := by rw [← hl.1]; exact (List.getElem?_eq_some_iff.mp h).1
  obtain ⟨k, hk⟩ := List.getElem?_of_mem (am_prs_mem.mpr ⟨_, h, (fun h => by cases h), rfl⟩ : (i, G.cv (.int x)) ∈ am_prs G ls)
  exact lv_iinc F.1 F.2.1 hd hl.2 hk (by rw [hn]) hi rfl fun ls' h' => kk H locs ls' hW hS (am_lr.set hF hl.1 h')
theorem am_ofInt_inj {x : Int32} {n : Int} (h1 : -1000 ≤ n) (h2 : n ≤ 1000) (hn : Int32.ofInt n = am_c n) : x = am_c n ↔ x.toInt = n := by
  rw [← hn]
  have e : (Int32.ofInt n).toInt = n := by
    exact Int32.toInt_ofInt_of_le (by omega) (by omega)
  constructor
  · rintro rfl; exact e
  · intro h; exact Int32.toInt_inj.mp (by rw [e]; exact h)
theorem am_c_of (n : Int) (h1 : -1000 ≤ n) (h2 : n ≤ 1000) : Int32.ofInt n = am_c n := by
  have : ∀ k : Fin 2001, Int32.ofInt ((k.val : Int) - 1000) = am_c ((k.val : Int) - 1000) := by decide +kernel
  have e := this ⟨(n + 1000).toNat, by omega⟩
  have : (((n + 1000).toNat : Nat) : Int) - 1000 = n := by omega
  simp only [this] at e
  exact e
end Snd2
