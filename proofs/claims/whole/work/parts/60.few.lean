/-! the fewest words: the search finds what the trial of all sets finds -/
theorem ps_dis_add : ∀ (n a b : Nat), a < 2 ^ n → (∀ x, a.testBit x = true → b.testBit x = false) → a ||| b = a + b
  | 0, a, b, h, _ => by
    have : a = 0 := by rw [Nat.pow_zero] at h; omega
    rw [this, Nat.zero_or, Nat.zero_add]
  | n + 1, a, b, h, hd => by
    have ih := ps_dis_add n (a / 2) (b / 2) (by rw [Nat.pow_succ] at h; omega) (fun x hx => by rw [Nat.testBit_div_two] at hx ⊢; exact hd _ hx)
    have h1 : (a ||| b) / 2 = a / 2 + b / 2 := by rw [Nat.or_div_two]; exact ih
    have h2 : (a ||| b) % 2 = a % 2 + b % 2 := by
      have h0 := hd 0
      rw [Nat.testBit_zero, Nat.testBit_zero, decide_eq_true_eq, decide_eq_false_iff_not] at h0
      have h3 : (a ||| b) % 2 = 1 ↔ a % 2 = 1 ∨ b % 2 = 1 := Nat.or_mod_two_eq_one
      omega
    omega
theorem ps_cnt_dis {a b : Nat} (hd : ∀ x, a.testBit x = true → b.testBit x = false) : ∀ n, ps_cnt (fun k => (a ||| b).testBit k) n = ps_cnt (fun k => a.testBit k) n + ps_cnt (fun k => b.testBit k) n
  | 0 => rfl
  | n + 1 => by
    have ih := ps_cnt_dis hd n
    have h : ((a ||| b).testBit n).toNat = (a.testBit n).toNat + (b.testBit n).toNat := by
      rw [Nat.testBit_or]
      cases ha : a.testBit n with
      | false => simp
      | true => rw [hd n ha]; rfl
    rw [ps_cnt, ps_cnt, ps_cnt, ih, h]
    omega
section Few
variable {S : ps_S} {L : List Nat}
def ps_forced (S : ps_S) (L : List Nat) (st g : Nat) : Nat := ps_dif (ps_dif g st) (L.foldl (fun a e => a ||| 2 ^ S.hd e) 0)
theorem ps_fold_bit {F : Nat → Nat} {x : Nat} : ∀ {L : List Nat} {a : Nat}, (L.foldl (fun a e => a ||| F e) a).testBit x = true ↔ a.testBit x = true ∨ ∃ e, e ∈ L ∧ (F e).testBit x = true
  | [], a => by simp
  | e :: L, a => by
    rw [List.foldl_cons, ps_fold_bit (L := L), Nat.testBit_or, Bool.or_eq_true]
    constructor
    · rintro ((h | h) | ⟨e', h1, h2⟩)
      · exact Or.inl h
      · exact Or.inr ⟨e, by simp, h⟩
      · exact Or.inr ⟨e', by simp [h1], h2⟩
    · rintro (h | ⟨e', h1, h2⟩)
      · exact Or.inl (Or.inl h)
      · rcases List.mem_cons.mp h1 with rfl | h1
        · exact Or.inl (Or.inr h2)
        · exact Or.inr ⟨e', h1, h2⟩
def ps_chs (S : ps_S) (L : List Nat) (g kn : Nat) : Nat := L.foldl (fun a e => a ||| (if kn.testBit (S.hd e) = true then 0 else ps_dif (ps_us S e) kn)) (ps_dif g kn)
def ps_good (S : ps_S) (L : List Nat) (st g X : Nat) : Prop := ps_le g (ps_cl S L (st ||| X))
theorem ps_forced_le {st g X : Nat} (h : ps_good S L st g X) : ps_le (ps_forced S L st g) X := by
  intro x hx
  rw [ps_forced, ps_dif_bit, ps_dif_bit, Bool.and_eq_true, Bool.and_eq_true] at hx
  obtain ⟨⟨h1, h2⟩, h3⟩ := hx
  have h2 : st.testBit x = false := by simpa using h2
  have h3 : ∀ e, e ∈ L → ¬ S.hd e = x := fun e he heq => by
    have : (L.foldl (fun a e => a ||| 2 ^ S.hd e) 0).testBit x = true := ps_fold_bit.mpr (Or.inr ⟨e, he, by rw [heq, Nat.testBit_two_pow]; exact decide_eq_true rfl⟩)
    rw [this] at h3
    exact absurd h3 (by decide)
  cases hX : X.testBit x with
  | true => rfl
  | false =>
    have hc : ps_cld S L (ps_dif (ps_cl S L (st ||| X)) (2 ^ x)) := fun e he hu => by
      have h4 := ps_cl_cld (S := S) (L := L) (st ||| X) e he (fun y hy => by
        have := hu y hy
        rw [ps_dif_bit, Bool.and_eq_true] at this
        exact this.1)
      rw [ps_dif_bit, h4, Nat.testBit_two_pow, decide_eq_false (fun z => h3 e he z.symm)]
      rfl
    have hk : ps_le (st ||| X) (ps_dif (ps_cl S L (st ||| X)) (2 ^ x)) := fun y hy => by
      rw [ps_dif_bit, ps_cl_ge (S := S) (L := L) (st ||| X) y hy, Nat.testBit_two_pow]
      have : ¬ x = y := fun e => by
        subst e
        rw [Nat.testBit_or, h2, hX] at hy
        exact absurd hy (by decide)
      rw [decide_eq_false this]
      rfl
    have h5 := ps_cl_min hk hc x (h x h1)
    rw [ps_dif_bit, Nat.testBit_two_pow, decide_eq_true rfl] at h5
    simp at h5
theorem ps_few {w st g X0 : Nat} (hw : w ≤ 16) (hg : g < 2 ^ w) (hu : ∀ e, e ∈ L → ps_us S e < 2 ^ w) (hX : X0 < 2 ^ w) (hG : ps_good S L st g X0) (hm : ∀ X, X < 2 ^ w → ps_good S L st g X → ps_pc X0 ≤ ps_pc X ∧ (ps_pc X = ps_pc X0 → X0 ≤ X)) :
    ∃ s Y, s ≤ 16 ∧ (∀ s', s' < s → ps_pk S L g (ps_chs S L g (ps_cl S L (st ||| ps_forced S L st g))) s' 16 (ps_cl S L (st ||| ps_forced S L st g)) = none) ∧ ps_pk S L g (ps_chs S L g (ps_cl S L (st ||| ps_forced S L st g))) s 16 (ps_cl S L (st ||| ps_forced S L st g)) = some Y ∧ X0 = ps_forced S L st g ||| Y := by
  obtain ⟨F, hF⟩ : ∃ F, F = ps_forced S L st g := ⟨_, rfl⟩
  rw [← hF]
  obtain ⟨K, hK⟩ : ∃ K, K = ps_cl S L (st ||| F) := ⟨_, rfl⟩
  rw [← hK]
  obtain ⟨C, hC⟩ : ∃ C, C = ps_chs S L g K := ⟨_, rfl⟩
  rw [← hC]
  have p16 : 2 ^ w ≤ 2 ^ 16 := Nat.pow_le_pow_right (by omega) hw
  have hFle : ∀ X, ps_good S L st g X → ps_le F X := fun X h => by rw [hF]; exact ps_forced_le h
  have hFX := hFle X0 hG
  have hFlt : F < 2 ^ w := by rw [hF]; exact ps_dif_lt (ps_dif_lt hg)
  have hCb : ∀ x, C.testBit x = true → x < w := fun x hx => by
    rw [hC, ps_chs, ps_fold_bit] at hx
    rcases hx with hx | ⟨e, he, hx⟩
    · rcases Nat.lt_or_ge x w with z | z
      · exact z
      · rw [Nat.testBit_lt_two_pow (Nat.lt_of_lt_of_le (ps_dif_lt hg) (Nat.pow_le_pow_right (by omega) z))] at hx
        exact absurd hx (by decide)
    · by_cases hk : K.testBit (S.hd e) = true
      · rw [if_pos hk] at hx
        exact absurd hx (by simp)
      · rw [if_neg hk] at hx
        rcases Nat.lt_or_ge x w with z | z
        · exact z
        · rw [Nat.testBit_lt_two_pow (Nat.lt_of_lt_of_le (ps_dif_lt (hu e he)) (Nat.pow_le_pow_right (by omega) z))] at hx
          exact absurd hx (by decide)
  -- a valid choice gives a good set
  have mk : ∀ s Y, ps_vl S L g C s 16 K Y → F ||| Y < 2 ^ w ∧ ps_good S L st g (F ||| Y) ∧ ps_pc (F ||| Y) = ps_pc F + s ∧ F ||| Y = F + Y := by
    intro s Y hY
    obtain ⟨b1, b2⟩ := ps_vl_bits hY
    have hd : ∀ x, F.testBit x = true → Y.testBit x = false := fun x hx => by
      cases hy : Y.testBit x with
      | false => rfl
      | true =>
        have h1 := (b1 x hy).2
        have h2 : K.testBit x = true := by rw [hK]; exact ps_cl_ge _ x (ps_le.r _ _ x hx)
        rw [h1] at h2
        exact absurd h2 (by decide)
    have hYlt : Y < 2 ^ w := by
      apply Nat.lt_pow_two_of_testBit
      intro i hi
      apply Bool.eq_false_iff.mpr
      intro hb
      have := hCb i (b1 i hb).1
      omega
    refine ⟨Nat.or_lt_two_pow hFlt hYlt, ?_, ?_, ps_dis_add w F Y hFlt hd⟩
    · have := ps_vl_good hY
      rw [hK, ps_cl_or, Nat.or_assoc] at this
      exact this
    · rw [ps_pc, ps_cnt_dis hd, b2 16 (Nat.le_refl _)]
      rfl
  -- what is left of the optimum
  obtain ⟨Y0, hY0⟩ : ∃ Y0, Y0 = ps_dif X0 F := ⟨_, rfl⟩
  have hFY : F ||| Y0 = X0 := by
    apply ps_bx
    intro x
    rw [Nat.testBit_or, hY0, ps_dif_bit]
    cases hf : F.testBit x with
    | true => simp [hFX x hf]
    | false => simp
  have hd0 : ∀ x, F.testBit x = true → Y0.testBit x = false := fun x hx => by rw [hY0, ps_dif_bit, hx]; simp
  have hY0lt : Y0 < 2 ^ w := by rw [hY0]; exact ps_dif_lt hX
  have hpc0 : ps_pc X0 = ps_pc F + ps_pc Y0 := by
    have := ps_cnt_dis hd0 16
    rw [hFY] at this
    exact this
  have hval : ps_vl S L g C (ps_pc Y0) 16 (ps_cl S L ((st ||| F) ||| 0)) Y0 := by
    refine ps_vl_of (X := st ||| X0) (by omega) rfl (Nat.le_refl _) hG (by rw [Nat.or_zero, Nat.or_assoc, hFY]) (fun x hx => absurd hx (by simp)) (fun x hx => ?_)
    have hXx : X0.testBit x = true := by rw [hY0, ps_dif_bit, Bool.and_eq_true] at hx; exact hx.1
    have hFx : F.testBit x = false := by
      cases hf : F.testBit x with
      | false => rfl
      | true => rw [hd0 x hf] at hx; exact absurd hx (by decide)
    have hx16 : x < 16 := by
      rcases Nat.lt_or_ge x 16 with z | z
      · exact z
      · rw [Nat.testBit_lt_two_pow (Nat.lt_of_lt_of_le (show Y0 < 2 ^ 16 by omega) (Nat.pow_le_pow_right (by omega) z))] at hx
        exact absurd hx (by decide)
    have hX1 : ¬ ps_good S L st g (ps_dif X0 (2 ^ x)) := fun h => by
      have h1 := (hm _ (ps_dif_lt hX) h).1
      have h2 := ps_cnt_or (a := ps_dif X0 (2 ^ x)) (w := x) (n := 16) hx16 (by rw [ps_dif_bit, Nat.testBit_two_pow, decide_eq_true rfl]; simp)
      rw [ps_dif_or hXx] at h2
      have h2 : ps_pc X0 = ps_pc (ps_dif X0 (2 ^ x)) + 1 := h2
      omega
    have hst : st.testBit x = false := by
      cases hs : st.testBit x with
      | false => rfl
      | true =>
        refine absurd ?_ hX1
        have : st ||| ps_dif X0 (2 ^ x) = st ||| X0 := by
          apply ps_bx
          intro y
          rw [Nat.testBit_or, Nat.testBit_or, ps_dif_bit, Nat.testBit_two_pow]
          by_cases hy : x = y
          · subst hy; simp [hs]
          · simp [hy]
        rw [ps_good, this]
        exact hG
    have hdx : ps_dif (st ||| X0) (2 ^ x) = st ||| ps_dif X0 (2 ^ x) := by
      apply ps_bx
      intro y
      rw [ps_dif_bit, Nat.testBit_or, Nat.testBit_or, ps_dif_bit, Nat.testBit_two_pow]
      by_cases hy : x = y
      · subst hy; simp [hst]
      · simp [hy]
    have hncl : (ps_cl S L (st ||| ps_dif X0 (2 ^ x))).testBit x = false := by
      cases hb : (ps_cl S L (st ||| ps_dif X0 (2 ^ x))).testBit x with
      | false => rfl
      | true =>
        refine absurd ?_ hX1
        refine hG.tr (ps_cl_min (fun y hy => ?_) (ps_cl_cld _))
        by_cases hxy : x = y
        · subst hxy; exact hb
        · apply ps_cl_ge
          rw [← hdx, ps_dif_bit, hy, Nat.testBit_two_pow, decide_eq_false hxy]
          rfl
    have hKle : ps_le K (ps_cl S L (st ||| ps_dif X0 (2 ^ x))) := by
      rw [hK]
      refine ps_cl_mono (fun y hy => ?_)
      rw [← hdx, ps_dif_bit, Nat.testBit_two_pow]
      have hxy : ¬ x = y := fun e => by
        subst e
        rw [Nat.testBit_or, hst, hFx] at hy
        exact absurd hy (by decide)
      rw [decide_eq_false hxy, Bool.not_false, Bool.and_true]
      rw [Nat.testBit_or, Bool.or_eq_true] at hy ⊢
      rcases hy with hy | hy
      · exact Or.inl hy
      · exact Or.inr (hFX y hy)
    have hKx : K.testBit x = false := by
      cases hb : K.testBit x with
      | false => rfl
      | true =>
        have := hKle x hb
        rw [hncl] at this
        exact absurd this (by decide)
    refine ⟨by rw [Nat.testBit_or, hst, hFx]; rfl, ?_, by rw [hdx]; exact hncl⟩
    cases hb : C.testBit x with
    | true => rfl
    | false =>
      refine absurd ?_ hX1
      have hno : ∀ y, C.testBit y = true ↔ (ps_dif g K).testBit y = true ∨ ∃ e, e ∈ L ∧ (if K.testBit (S.hd e) = true then 0 else ps_dif (ps_us S e) K).testBit y = true := fun y => by rw [hC, ps_chs, ps_fold_bit]
      have hgx : g.testBit x = false := by
        cases hgb : g.testBit x with
        | false => rfl
        | true =>
          have := (hno x).mpr (Or.inl (by rw [ps_dif_bit, hgb, hKx]; rfl))
          rw [hb] at this
          exact absurd this (by decide)
      have hcl : ps_cld S L (ps_cl S L (st ||| ps_dif X0 (2 ^ x)) ||| 2 ^ x) := fun e he hue => by
        cases hux : (ps_us S e).testBit x with
        | false =>
          apply ps_le.l
          refine ps_cl_cld _ e he (fun y hy => ?_)
          have := hue y hy
          rw [Nat.testBit_or, Bool.or_eq_true, Nat.testBit_two_pow, decide_eq_true_eq] at this
          rcases this with h | h
          · exact h
          · subst h; rw [hux] at hy; exact absurd hy (by decide)
        | true =>
          apply ps_le.l
          apply hKle
          cases hkh : K.testBit (S.hd e) with
          | true => rfl
          | false =>
            have := (hno x).mpr (Or.inr ⟨e, he, by rw [hkh, if_neg (by decide), ps_dif_bit, hux, hKx]; rfl⟩)
            rw [hb] at this
            exact absurd this (by decide)
      intro y hy
      have h1 := ps_cl_min (S := S) (L := L) (k := st ||| X0) (fun z hz => ?_) hcl y (hG y hy)
      · rw [Nat.testBit_or, Bool.or_eq_true, Nat.testBit_two_pow, decide_eq_true_eq] at h1
        rcases h1 with h1 | h1
        · exact h1
        · subst h1; rw [hgx] at hy; exact absurd hy (by decide)
      · by_cases hxz : x = z
        · subst hxz
          apply ps_le.r
          rw [Nat.testBit_two_pow]
          exact decide_eq_true rfl
        · apply ps_le.l
          apply ps_cl_ge
          rw [← hdx, ps_dif_bit, hz, Nat.testBit_two_pow, decide_eq_false hxz]
          rfl
  rw [Nat.or_zero, ← hK] at hval
  have hs16 : ps_pc Y0 ≤ 16 := ps_cnt_le _ _
  cases hp : ps_pk S L g C (ps_pc Y0) 16 K with
  | none => exact absurd hval ((ps_pk_spec _ _ _).2 hp Y0)
  | some Y =>
    obtain ⟨v1, v2⟩ := (ps_pk_spec _ _ _).1 Y hp
    refine ⟨ps_pc Y0, Y, hs16, fun s' hs' => ?_, hp, ?_⟩
    · cases hp' : ps_pk S L g C s' 16 K with
      | none => rfl
      | some Y' =>
        obtain ⟨m1, m2, m3, m4⟩ := mk s' Y' ((ps_pk_spec _ _ _).1 Y' hp').1
        have := (hm _ m1 m2).1
        omega
    · obtain ⟨m1, m2, m3, m4⟩ := mk _ Y v1
      have h1 := (hm _ m1 m2).2 (by omega)
      have h2 := v2 Y0 hval
      obtain ⟨n1, n2, n3, n4⟩ := mk _ Y0 hval
      have h3 : Y = Y0 := by omega
      rw [h3, hFY]
end Few
