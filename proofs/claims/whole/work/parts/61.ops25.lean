/-! cut and least, the component -/
section Ops25
variable {S : ps_S} {L : List Nat}
def ps_gs (S : ps_S) : List Nat → Nat → Nat
  | [], a => a
  | e :: L, a => ps_gs S L (if ps_dif (ps_us S e) a = 0 then a ||| 2 ^ S.hd e else a)
def ps_gsn (S : ps_S) (L : List Nat) : Nat → Nat → Nat
  | 0, a => a
  | j + 1, a => if ps_gs S L a = a then a else ps_gsn S L j (ps_gs S L a)
theorem ps_gs_ge : ∀ (L : List Nat) (a : Nat), ps_le a (ps_gs S L a)
  | [], a => ps_le.rf a
  | e :: L, a => by
    rw [ps_gs]
    split
    · exact (ps_le.l a _).tr (ps_gs_ge L _)
    · exact ps_gs_ge L a
theorem ps_gs_bit {x : Nat} : ∀ {L : List Nat} {a : Nat}, (ps_gs S L a).testBit x = true → a.testBit x = true ∨ ∃ e, e ∈ L ∧ S.hd e = x
  | [], a, h => Or.inl h
  | e :: L, a, h => by
    rw [ps_gs] at h
    rcases ps_gs_bit (L := L) h with h1 | ⟨e', h1, h2⟩
    · by_cases hc : ps_dif (ps_us S e) a = 0
      · rw [if_pos hc, Nat.testBit_or, Bool.or_eq_true, Nat.testBit_two_pow, decide_eq_true_eq] at h1
        rcases h1 with h1 | h1
        · exact Or.inl h1
        · exact Or.inr ⟨e, by simp, h1⟩
      · rw [if_neg hc] at h1
        exact Or.inl h1
    · exact Or.inr ⟨e', by simp [h1], h2⟩
theorem ps_gs_min {c : Nat} : ∀ {L' : List Nat} {a : Nat}, (∀ e, e ∈ L' → e ∈ L) → ps_le a c → ps_cld S L c → ps_le (ps_gs S L' a) c
  | [], a, _, h, _ => h
  | e :: L', a, hs, h, hc => by
    rw [ps_gs]
    refine ps_gs_min (L' := L') (fun e' he' => hs e' (by simp [he'])) ?_ hc
    split
    · rename_i hu
      refine h.or (fun x hx => ?_)
      rw [Nat.testBit_two_pow, decide_eq_true_eq] at hx
      rw [← hx]
      exact hc e (hs e (by simp)) ((ps_dif0.mp hu).tr h)
    · exact h
theorem ps_gs_fix {a : Nat} : ∀ {L' : List Nat}, ps_gs S L' a = a → ∀ e, e ∈ L' → ps_le (ps_us S e) a → a.testBit (S.hd e) = true
  | [], _, e, he, _ => by simp at he
  | e' :: L', h, e, he, hu => by
    rw [ps_gs] at h
    by_cases hc : ps_dif (ps_us S e') a = 0
    · rw [if_pos hc] at h
      have h1 : ps_le (a ||| 2 ^ S.hd e') a := by
        have := ps_gs_ge (S := S) L' (a ||| 2 ^ S.hd e')
        rw [h] at this
        exact this
      have h2 : a ||| 2 ^ S.hd e' = a := ps_le.as h1 (ps_le.l _ _)
      rw [h2] at h
      rcases List.mem_cons.mp he with rfl | he
      · apply h1
        apply ps_le.r
        rw [Nat.testBit_two_pow]
        exact decide_eq_true rfl
      · exact ps_gs_fix h e he hu
    · rw [if_neg hc] at h
      rcases List.mem_cons.mp he with rfl | he
      · exact absurd (ps_dif0.mpr hu) hc
      · exact ps_gs_fix h e he hu
theorem ps_gs_ms {a : Nat} (h : ¬ ps_gs S L a = a) : ps_ms S L (ps_gs S L a) < ps_ms S L a := by
  have hex : ∃ x, (ps_gs S L a).testBit x = true ∧ a.testBit x = false := by
    apply Classical.byContradiction
    intro hno
    apply h
    refine ps_le.as (fun x hx => ?_) (ps_gs_ge L a)
    cases hb : a.testBit x with
    | true => rfl
    | false => exact absurd ⟨x, hx, hb⟩ hno
  obtain ⟨x, h1, h2⟩ := hex
  rcases ps_gs_bit h1 with h3 | ⟨e, h3, h4⟩
  · rw [h2] at h3; exact absurd h3 (by decide)
  · refine ps_flt_lt (e := e) (fun y _ hp => ?_) h3 (by rw [h4, h1]; rfl) (by rw [h4, h2]; rfl)
    cases hb : a.testBit (S.hd y) with
    | false => rfl
    | true =>
      rw [ps_gs_ge L a _ hb] at hp
      exact absurd hp (by decide)
theorem ps_gsn_cl {k : Nat} : ∀ (j a : Nat), ps_le k a → ps_le a (ps_cl S L k) → ps_ms S L a ≤ j → ps_gsn S L j a = ps_cl S L k
  | 0, a, h1, h2, h3 => by
    have hf : ps_gs S L a = a := Classical.byContradiction (fun hc => by
      have := ps_gs_ms hc
      omega)
    exact ps_cl_uni h1 (ps_gs_fix hf) h2
  | j + 1, a, h1, h2, h3 => by
    rw [ps_gsn]
    by_cases hf : ps_gs S L a = a
    · rw [if_pos hf]
      exact ps_cl_uni h1 (ps_gs_fix hf) h2
    · rw [if_neg hf]
      have := ps_gs_ms hf
      exact ps_gsn_cl j _ (h1.tr (ps_gs_ge L a)) (ps_gs_min (fun e he => he) h2 (ps_cl_cld k)) (by omega)
/-- rules that fit -/
def ps_Lb (S : ps_S) (L : List Nat) : Prop := L.length ≤ 12 ∧ ∀ e, e ∈ L → S.hd e < 16 ∧ ps_us S e < 65536
theorem ps_gs_lt {L' : List Nat} (hL : ∀ e, e ∈ L' → S.hd e < 16) {a : Nat} (ha : a < 65536) : ps_gs S L' a < 65536 := by
  have : ps_gs S L' a < 2 ^ 16 := by
    apply Nat.lt_pow_two_of_testBit
    intro i hi
    apply Bool.eq_false_iff.mpr
    intro hb
    rcases ps_gs_bit hb with h | ⟨e, h1, h2⟩
    · rw [Nat.testBit_lt_two_pow (Nat.lt_of_lt_of_le (show a < 2 ^ 16 from ha) (Nat.pow_le_pow_right (by omega) hi))] at h
      exact absurd h (by decide)
    · have := hL e h1
      omega
  exact this
theorem w511 (d : Nat) {μ : am_Mem} (hA : ps_Ru S L μ) (hb : ps_Lb S L) {k : Nat} (hk : k < 65536) : am_call (d + 1) 511 [.ref 42, .int (nI k)] μ = am_ret (some (.int (nI (ps_cl S L k)))) μ := by
  obtain ⟨hl, hm⟩ := hb
  have lp : ∀ m r a (i x4 : Int32), r + m = L.length → a < 65536 → am_ev (am_call d) 511 18 [.ref 42, .int (nI k), .int (nI a), .int i, .int x4, .int (nI r)] [] μ = am_ev (am_call d) 511 57 [.ref 42, .int (nI k), .int (nI (ps_gs S (L.drop r) a)), .int i, .int x4, .int (nI L.length)] [] μ := by
    intro m
    induction m with
    | zero =>
      intro r a i x4 hr ha
      have hr : r = L.length := hr
      subst hr
      rw [q511_18, hA.1, if_pos (by rw [am_leN (by omega) (by omega)]; omega), List.drop_length]
      rfl
    | succ m ih =>
      intro r a i x4 hr ha
      have hlt : r < L.length := by omega
      obtain ⟨n1, n2⟩ := hA.2 r _ (List.getElem?_eq_getElem hlt)
      obtain ⟨m1, m2⟩ := hm _ (List.getElem_mem hlt)
      have hd : ps_dif (ps_us S L[r]) a < 2 ^ 16 := ps_dif_lt m2
      have hp : 2 ^ S.hd L[r] < 2 ^ 16 := Nat.pow_lt_pow_right (by omega) m1
      have ho : a ||| 2 ^ S.hd L[r] < 2 ^ 16 := Nat.or_lt_two_pow ha hp
      rw [q511_18, hA.1, if_neg (by rw [am_leN (by omega) (by omega)]; omega), am_ixN (by omega), am_gbI (by omega), n1, n2, am_andn, am_gbI (by omega), am_or, q511_51, q511_51, am_cN, nI_add, ps_drop_cons hlt, ps_gs]
      by_cases hc : ps_dif (ps_us S L[r]) a = 0
      · rw [if_pos (by rw [am_eq0 (by omega)]; exact hc), if_pos hc]
        exact ih (r + 1) _ _ _ (by omega) ho
      · rw [if_neg (by rw [am_eq0 (by omega)]; exact hc), if_neg hc]
        exact ih (r + 1) _ _ _ (by omega) ha
  have op : ∀ m i a (x4 x5 : Value), i + m = L.length → a < 65536 → am_ev (am_call d) 511 4 [.ref 42, .int (nI k), .int (nI a), .int (nI i), x4, x5] [] μ = am_ret (some (.int (nI (ps_gsn S L m a)))) μ := by
    intro m
    induction m with
    | zero =>
      intro i a x4 x5 hi ha
      rw [q511_4, hA.1, if_pos (by rw [am_leN (by omega) (by omega)]; omega), q511_71]
      rfl
    | succ m ih =>
      intro i a x4 x5 hi ha
      have hg : ps_gs S L a < 65536 := ps_gs_lt (fun e he => (hm e he).1) ha
      rw [q511_4, hA.1, if_neg (by rw [am_leN (by omega) (by omega)]; omega), show am_c 0 = nI 0 from rfl, lp L.length 0 a _ _ (by omega) ha, List.drop_zero, q511_57, ps_gsn]
      by_cases hc : ps_gs S L a = a
      · rw [if_pos (by rw [hc]), if_pos hc, hc]
      · rw [if_neg (by rw [am_eqN (by omega) (by omega)]; exact hc), if_neg hc, q511_65, am_cN, nI_add]
        exact ih (i + 1) _ _ _ (by omega) hg
  rw [e511, q511_0, show am_c 0 = nI 0 from rfl, op L.length 0 k _ _ (by omega) hk, ps_gsn_cl L.length k (ps_le.rf k) (ps_cl_ge k) (ps_ms_le S L k)]
theorem ps_and_pow {a w : Nat} : a &&& 2 ^ w = if a.testBit w = true then 2 ^ w else 0 := by
  apply Nat.eq_of_testBit_eq
  intro i
  rw [Nat.testBit_and, Nat.testBit_two_pow]
  by_cases hi : w = i
  · subst hi
    cases hb : a.testBit w <;> simp
  · rw [decide_eq_false hi, Bool.and_false]
    split
    · rw [Nat.testBit_two_pow, decide_eq_false hi]
    · rw [Nat.zero_testBit]
theorem w510 (d : Nat) {μ : am_Mem} (hA : ps_Ru S L μ) (hb : ps_Lb S L) {g ch : Nat} (h8 : μ 42 8 = nI g) (h9 : μ 42 9 = nI ch) (hg : g < 65536) (hc : ch < 65536) : ∀ s top kn, s ≤ 16 → top ≤ 16 → kn < 65536 → am_call (d + s + 2) 510 [.ref 42, .int (nI kn), .int (nI s), .int (nI top)] μ = am_ret (some (.int (ps_oi (ps_pk S L g ch s top kn)))) μ := by
  intro s
  induction s with
  | zero =>
    intro top kn hs ht hk
    have hd : ps_dif g kn < 2 ^ 16 := ps_dif_lt hg
    rw [e510, q510_0, if_pos (by decide), h8, am_andn, q510_19, q510_20, q510_20, ps_pk]
    by_cases h0 : ps_dif g kn = 0
    · rw [if_pos (by rw [am_eq0 (by omega)]; exact h0), if_pos h0]
      rfl
    · rw [if_neg (by rw [am_eq0 (by omega)]; exact h0), if_neg h0]
      rfl
  | succ s ih =>
    intro top kn hs ht hk
    have hF : ∀ k w (x5 : Value), w + k = max w top → s ≤ w → w ≤ 16 → am_ev (am_call (d + s + 2)) 510 26 [.ref 42, .int (nI kn), .int (nI (s + 1)), .int (nI top), .int (nI w), x5] [] μ = am_ret (some (.int (ps_oi (ps_pl (fun w => if ch.testBit w = true ∧ kn.testBit w = false then (match ps_pk S L g ch s w (ps_cl S L (kn ||| 2 ^ w)) with | some y => some (y ||| 2 ^ w) | none => none) else none) k w)))) μ := by
      intro k
      induction k with
      | zero =>
        intro w x5 hw hsw hw16
        rw [q510_26, if_pos (by rw [am_leN (by omega) (by omega)]; omega), q510_89]
        rfl
      | succ k ihk =>
        intro w x5 hw hsw hw16
        have hwt : w < top := by omega
        have hp : 2 ^ w < 2 ^ 16 := Nat.pow_lt_pow_right (by omega) (by omega)
        have ho : kn ||| 2 ^ w < 2 ^ 16 := Nat.or_lt_two_pow hk hp
        have hcl : ps_cl S L (kn ||| 2 ^ w) < 2 ^ 16 := ps_cl_lt (fun e he => (hb.2 e he).1) ho
        have hd : ps_dif ch kn < 2 ^ 16 := ps_dif_lt hc
        have ha : ps_dif ch kn &&& 2 ^ w < 2 ^ 16 := Nat.and_lt_two_pow _ hp
        have hbit : (ps_dif ch kn &&& 2 ^ w = 0) ↔ ¬ (ch.testBit w = true ∧ kn.testBit w = false) := by
          have hpos : 2 ^ w ≠ 0 := Nat.pos_iff_ne_zero.mp (Nat.two_pow_pos w)
          rw [ps_and_pow, ps_dif_bit]
          cases h1 : ch.testBit w <;> cases h2 : kn.testBit w <;> simp
        rw [q510_26, if_neg (by rw [am_leN (by omega) (by omega)]; omega), h9, am_andn, show am_c 1 = nI 1 from rfl, am_shl1 (by omega), am_and, am_or, ps_pl]
        by_cases hcw : ch.testBit w = true ∧ kn.testBit w = false
        · rw [if_neg (by rw [am_eq0 (by omega), hbit]; exact fun z => z hcw), w511 (d + s + 1) hA hb ho, am_bI_ret, pk_sub (by omega), Nat.add_sub_cancel, ih w _ (by omega) (by omega) hcl, am_bI_ret]
          show (if ps_oi (ps_pk S L g ch s w (ps_cl S L (kn ||| 2 ^ w))) = am_c (-1) then _ else _) = am_ret (some (.int (ps_oi (match (if ch.testBit w = true ∧ kn.testBit w = false then (match ps_pk S L g ch s w (ps_cl S L (kn ||| 2 ^ w)) with | some y => some (y ||| 2 ^ w) | none => none) else none) with | some x => some x | none => _)))) μ
          rw [if_pos hcw]
          cases hp' : ps_pk S L g ch s w (ps_cl S L (kn ||| 2 ^ w)) with
          | none =>
            rw [if_pos (show ps_oi none = am_c (-1) from rfl), q510_83, am_cN, nI_add]
            exact ihk (w + 1) _ (by omega) (by omega) (by omega)
          | some y =>
            have hy := (ps_vl_lt ((ps_pk_spec s w _).1 y hp').1).1
            rw [if_neg (show ¬ ps_oi (some y) = am_c (-1) from nI_m1 (by omega))]
            show am_ret (some (.int (nI y ||| nI (2 ^ w)))) μ = _
            rw [am_or]
            rfl
        · rw [if_pos (by rw [am_eq0 (by omega), hbit]; exact hcw)]
          show _ = am_ret (some (.int (ps_oi (match (if ch.testBit w = true ∧ kn.testBit w = false then (match ps_pk S L g ch s w (ps_cl S L (kn ||| 2 ^ w)) with | some y => some (y ||| 2 ^ w) | none => none) else none) with | some x => some x | none => _)))) μ
          rw [if_neg hcw, q510_83, am_cN, nI_add]
          exact ihk (w + 1) _ (by omega) (by omega) (by omega)
    rw [show d + (s + 1) + 2 = d + s + 2 + 1 by omega, e510, q510_0, if_neg (by rw [am_eq0 (by omega)]; omega), q510_21, am_cN, pk_sub (by omega), Nat.add_sub_cancel, hF (top - s) s _ (by omega) (Nat.le_refl _) (by omega), ps_pk]
    rfl
theorem ps_fold_lt {F : Nat → Nat} : ∀ {L : List Nat} {a : Nat}, a < 65536 → (∀ e, e ∈ L → F e < 65536) → L.foldl (fun a e => a ||| F e) a < 65536
  | [], a, h, _ => h
  | e :: L, a, h, hF => by
    rw [List.foldl_cons]
    refine ps_fold_lt (L := L) ?_ (fun e' he' => hF e' (by simp [he']))
    have : a ||| F e < 2 ^ 16 := Nat.or_lt_two_pow h (hF e (by simp))
    exact this
theorem w509_10 (d : Nat) {μ : am_Mem} (hA : ps_Ru S L μ) (hb : ps_Lb S L) (x1 x2 : Int32) (x5 x6 x7 : Value) : ∀ m r a, r + m = L.length → am_ev (am_call d) 509 10 [.ref 42, .int x1, .int x2, .int (nI a), .int (nI r), x5, x6, x7] [] μ = am_ev (am_call d) 509 35 [.ref 42, .int x1, .int x2, .int (nI ((L.drop r).foldl (fun a e => a ||| 2 ^ S.hd e) a)), .int (nI L.length), x5, x6, x7] [] μ := by
  obtain ⟨hl, hm⟩ := hb
  intro m
  induction m with
  | zero =>
    intro r a hr
    have hr : r = L.length := hr
    subst hr
    rw [q509_10, hA.1, if_pos (by rw [am_leN (by omega) (by omega)]; omega), List.drop_length]
    rfl
  | succ m ih =>
    intro r a hr
    have hlt : r < L.length := by omega
    obtain ⟨n1, n2⟩ := hA.2 r _ (List.getElem?_eq_getElem hlt)
    rw [q509_10, hA.1, if_neg (by rw [am_leN (by omega) (by omega)]; omega), am_ixN (by omega), am_gbI (by omega), n2, am_or, am_cN, nI_add, ps_drop_cons hlt, List.foldl_cons]
    exact ih (r + 1) _ (by omega)
theorem w509_69 (d : Nat) (hb : ps_Lb S L) (x1 x2 x3 x4 : Int32) (x7 : Value) {K : Nat} : ∀ m r a (μ : am_Mem), ps_Ru S L μ → r + m = L.length → μ 42 9 = nI a → ∃ μ', am_ev (am_call d) 509 69 [.ref 42, .int x1, .int x2, .int x3, .int x4, .int (nI K), .int (nI r), x7] [] μ = am_ev (am_call d) 509 120 [.ref 42, .int x1, .int x2, .int x3, .int x4, .int (nI K), .int (nI L.length), x7] [] μ' ∧ ps_off [42] μ μ' ∧ (∀ i, i ≠ 9 → μ' 42 i = μ 42 i) ∧ μ' 42 9 = nI ((L.drop r).foldl (fun a e => a ||| (if K.testBit (S.hd e) = true then 0 else ps_dif (ps_us S e) K)) a) := by
  obtain ⟨hl, hm⟩ := hb
  intro m
  induction m with
  | zero =>
    intro r a μ hA hr h9
    have hr : r = L.length := hr
    subst hr
    rw [q509_69, hA.1, if_pos (by rw [am_leN (by omega) (by omega)]; omega), List.drop_length]
    exact ⟨μ, rfl, ps_off.rf, fun _ _ => rfl, h9⟩
  | succ m ih =>
    intro r a μ hA hr h9
    have hlt : r < L.length := by omega
    obtain ⟨n1, n2⟩ := hA.2 r _ (List.getElem?_eq_getElem hlt)
    obtain ⟨m1, m2⟩ := hm _ (List.getElem_mem hlt)
    have hp : 2 ^ S.hd L[r] < 2 ^ 16 := Nat.pow_lt_pow_right (by omega) m1
    have hd : ps_dif (2 ^ S.hd L[r]) K < 2 ^ 16 := ps_dif_lt hp
    have hbit : ps_dif (2 ^ S.hd L[r]) K = 0 ↔ K.testBit (S.hd L[r]) = true := by
      rw [ps_dif0]
      constructor
      · intro h
        exact h _ (by rw [Nat.testBit_two_pow]; exact decide_eq_true rfl)
      · intro h x hx
        rw [Nat.testBit_two_pow, decide_eq_true_eq] at hx
        rw [← hx]; exact h
    rw [q509_69, hA.1, if_neg (by rw [am_leN (by omega) (by omega)]; omega), am_ixN (by omega), am_gbI (by omega), n2, n1, h9, am_andn, am_andn, am_gbI (by omega), am_or, q509_114, q509_114, am_cN, nI_add, ps_drop_cons hlt, List.foldl_cons]
    by_cases hc : K.testBit (S.hd L[r]) = true
    · rw [if_pos (by rw [am_eq0 (by omega), hbit]; exact hc), if_pos hc, Nat.or_zero]
      exact ih (r + 1) a μ hA (by omega) h9
    · rw [if_neg (by rw [am_eq0 (by omega), hbit]; exact hc), if_neg hc]
      obtain ⟨μ', b1, b2, b3, b4⟩ := ih (r + 1) (a ||| ps_dif (ps_us S L[r]) K) (am_up μ 42 9 (nI (a ||| ps_dif (ps_us S L[r]) K))) (hA.off (by rw [am_upI (by omega)]) (by rw [am_up_ne (by omega)]) (by rw [am_up_ne (by omega)])) (by omega) (by rw [am_upS])
      rw [b1]
      exact ⟨μ', rfl, (ps_off.rf.up (by decide)).tr b2, fun i hi => by rw [b3 i hi, am_upI hi], b4⟩
theorem w509 (d : Nat) {μ : am_Mem} (hA : ps_Ru S L μ) (hb : ps_Lb S L) {st g : Nat} (hst : st < 65536) (hg : g < 65536) {s Y : Nat} (hs : s ≤ 16) (hno : ∀ s', s' < s → ps_pk S L g (ps_chs S L g (ps_cl S L (st ||| ps_forced S L st g))) s' 16 (ps_cl S L (st ||| ps_forced S L st g)) = none) (hyes : ps_pk S L g (ps_chs S L g (ps_cl S L (st ||| ps_forced S L st g))) s 16 (ps_cl S L (st ||| ps_forced S L st g)) = some Y) : ∃ μ', am_call (d + 19) 509 [.ref 42, .int (nI st), .int (nI g)] μ = am_ret (some (.int (nI (ps_forced S L st g ||| Y)))) μ' ∧ ps_off [42] μ μ' := by
  have hgv : L.foldl (fun a e => a ||| 2 ^ S.hd e) 0 < 65536 := ps_fold_lt (by omega) (fun e he => by
    have : 2 ^ S.hd e < 2 ^ 16 := Nat.pow_lt_pow_right (by omega) (hb.2 e he).1
    exact this)
  have hF : ps_forced S L st g < 2 ^ 16 := ps_dif_lt (ps_dif_lt hg)
  have hor : st ||| ps_forced S L st g < 2 ^ 16 := Nat.or_lt_two_pow hst hF
  obtain ⟨K, hK⟩ : ∃ K, K = ps_cl S L (st ||| ps_forced S L st g) := ⟨_, rfl⟩
  rw [← hK] at hno hyes
  have hKlt : K < 2 ^ 16 := by rw [hK]; exact ps_cl_lt (fun e he => (hb.2 e he).1) hor
  have hA0 : ps_Ru S L (am_up μ 42 8 (nI g)) := hA.off (by rw [am_upI (by omega)]) (by rw [am_up_ne (by omega)]) (by rw [am_up_ne (by omega)])
  have hA1 : ps_Ru S L (am_up (am_up μ 42 8 (nI g)) 42 9 (nI (ps_dif g K))) := hA0.off (by rw [am_upI (by omega)]) (by rw [am_up_ne (by omega)]) (by rw [am_up_ne (by omega)])
  obtain ⟨μ2, b1, b2, b3, b4⟩ := w509_69 (d + 18) hb (nI st) (nI g) (nI (L.foldl (fun a e => a ||| 2 ^ S.hd e) 0)) (nI (ps_forced S L st g)) .null (K := K) L.length 0 (ps_dif g K) _ hA1 (by omega) (by rw [am_upS])
  have hA2 : ps_Ru S L μ2 := hA1.off (b3 2 (by omega)) (b2 43 (by decide)) (b2 44 (by decide))
  have h8 : μ2 42 8 = nI g := by rw [b3 8 (by omega), am_upI (by omega), am_upS]
  rw [List.drop_zero] at b4
  have h9 : μ2 42 9 = nI (ps_chs S L g K) := b4
  have hch : ps_chs S L g K < 65536 := by
    refine ps_fold_lt (show ps_dif g K < 65536 from ps_dif_lt (n := 16) hg) (fun e he => ?_)
    split
    · omega
    · exact ps_dif_lt (n := 16) (hb.2 e he).2
  have off : ps_off [42] μ μ2 := ((ps_off.rf.up (by decide)).up (by decide)).tr b2
  have pick : ∀ s', s' ≤ 16 → am_call (d + 18) 510 [.ref 42, .int (nI K), .int (nI s'), .int (am_c 16)] μ2 = am_ret (some (.int (ps_oi (ps_pk S L g (ps_chs S L g K) s' 16 K)))) μ2 := by
    intro s' hs'
    have := w510 (d + (16 - s')) hA2 hb h8 h9 hg hch s' 16 K hs' (Nat.le_refl _) (by omega)
    rw [show d + (16 - s') + s' + 2 = d + 18 by omega] at this
    exact this
  have lp : ∀ k i (x7 : Value), i + k = s → am_ev (am_call (d + 18)) 509 123 [.ref 42, .int (nI st), .int (nI g), .int (nI (L.foldl (fun a e => a ||| 2 ^ S.hd e) 0)), .int (nI (ps_forced S L st g)), .int (nI K), .int (nI i), x7] [] μ2 = am_ret (some (.int (nI (ps_forced S L st g ||| Y)))) μ2 := by
    intro k
    induction k with
    | zero =>
      intro i x7 hi
      have hi : i = s := hi
      subst hi
      have hy := (ps_vl_lt ((ps_pk_spec i 16 K).1 Y hyes).1).1
      rw [q509_123, if_neg (by rw [am_cN, am_ltN (by omega) (by omega)]; omega), pick i hs, am_bI_ret, hyes, show ps_oi (some Y) = nI Y from rfl, if_neg (nI_m1 (by omega)), am_or]
    | succ k ih =>
      intro i x7 hi
      rw [q509_123, if_neg (by rw [am_cN, am_ltN (by omega) (by omega)]; omega), pick i (by omega), am_bI_ret, hno i (by omega), if_pos (show ps_oi none = am_c (-1) from rfl), q509_154, am_cN, nI_add]
      exact ih (i + 1) _ (by omega)
  have e0 := w509_10 (d + 18) hA0 hb (nI st) (nI g) .null .null .null L.length 0 0 (by omega)
  rw [List.drop_zero] at e0
  rw [e509, q509_0, show am_c 0 = nI 0 from rfl, e0, q509_35, am_andn, am_andn, show ps_dif (ps_dif g st) (L.foldl (fun a e => a ||| 2 ^ S.hd e) 0) = ps_forced S L st g from rfl, am_or, w511 (d + 17) hA0 hb (by omega), am_bI_ret, ← hK, am_andn, show am_c 0 = nI 0 from rfl, b1, q509_120, show am_c 0 = nI 0 from rfl, lp s 0 _ (by omega)]
  exact ⟨μ2, rfl, off⟩
theorem w504 (d : Nat) {μ : am_Mem} (hA : ps_Ru S L μ) (hb : ps_Lb S L) : am_call (d + 1) 504 [.ref 42] μ = am_ret (some (.int (nI (L.foldl (fun a e => a ||| ps_us S e) 0)))) μ := by
  obtain ⟨hl, hm⟩ := hb
  have lp : ∀ m r a, r + m = L.length → am_ev (am_call d) 504 4 [.ref 42, .int (nI a), .int (nI r)] [] μ = am_ret (some (.int (nI ((L.drop r).foldl (fun a e => a ||| ps_us S e) a)))) μ := by
    intro m
    induction m with
    | zero =>
      intro r a hr
      have hr : r = L.length := hr
      subst hr
      rw [q504_4, hA.1, if_pos (by rw [am_leN (by omega) (by omega)]; omega), q504_27, List.drop_length]
      rfl
    | succ m ih =>
      intro r a hr
      have hlt : r < L.length := by omega
      obtain ⟨n1, n2⟩ := hA.2 r _ (List.getElem?_eq_getElem hlt)
      rw [q504_4, hA.1, if_neg (by rw [am_leN (by omega) (by omega)]; omega), am_ixN (by omega), am_gbI (by omega), n1, am_or, am_cN, nI_add, ps_drop_cons hlt, List.foldl_cons]
      exact ih (r + 1) _ (by omega)
  rw [e504, q504_0]
  exact lp L.length 0 0 (by omega)
theorem w716 (d : Nat) {μ : am_Mem} (hR : ps_Rc 1 S μ) (hW : ps_Wf S) : am_call (d + 1) 716 [.ref 1] μ = am_ret (some (.int (nI (ps_mask S.hd S.n)))) μ := by
  have n12 : S.n ≤ 12 := hW.2.2.2.2.2.2.1
  have r8 : μ 1 7 = nI S.n := hR.2.2.2.2.2.2.2.1
  have lp : ∀ m e, e + m = S.n → am_ev (am_call d) 716 4 [.ref 1, .int (nI (ps_mask S.hd e)), .int (nI e)] [] μ = am_ret (some (.int (nI (ps_mask S.hd S.n)))) μ := by
    intro m
    induction m with
    | zero =>
      intro e he
      have he : e = S.n := he
      subst he
      rw [q716_4, r8, if_pos (by rw [am_leN (by omega) (by omega)]; omega), q716_29]
    | succ m ih =>
      intro e he
      have hw := (hW.e (e := e) (by omega)).2.2.2.1
      have hw16 : S.w ≤ 16 := hW.1
      rw [q716_4, r8, if_neg (by rw [am_leN (by omega) (by omega)]; omega), am_ixN (by omega), am_gbI (by omega), show μ 3 e = nI (S.hd e) from hR.2.2.2.2.2.2.2.2.1 e (by omega), show am_c 1 = nI 1 from rfl, am_shl1 (by omega), am_or, nI_add]
      exact ih (e + 1) (by omega)
  rw [e716, q716_0]
  exact lp S.n 0 (by omega)
end Ops25
