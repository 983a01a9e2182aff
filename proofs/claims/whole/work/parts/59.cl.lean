/-! what is learnt, as a closure; the fewest words that do -/
def ps_le (a b : Nat) : Prop := ∀ x, a.testBit x = true → b.testBit x = true
theorem ps_le.rf (a : Nat) : ps_le a a := fun _ h => h
theorem ps_le.tr {a b c : Nat} (h : ps_le a b) (h' : ps_le b c) : ps_le a c := fun x hx => h' x (h x hx)
theorem ps_le.as {a b : Nat} (h : ps_le a b) (h' : ps_le b a) : a = b := ps_bx (fun x => ⟨h x, h' x⟩)
theorem ps_dif0 {a b : Nat} : ps_dif a b = 0 ↔ ps_le a b := by
  constructor
  · intro h x hx
    have := congrArg (fun z => z.testBit x) h
    simp only [ps_dif_bit, Nat.zero_testBit, hx, Bool.true_and] at this
    simpa using this
  · intro h
    apply Nat.eq_of_testBit_eq
    intro i
    rw [ps_dif_bit, Nat.zero_testBit]
    cases ha : a.testBit i with
    | false => rfl
    | true => rw [h i ha]; rfl
theorem ps_le.or {a b c : Nat} (h : ps_le a c) (h' : ps_le b c) : ps_le (a ||| b) c := fun x hx => by
  rw [Nat.testBit_or, Bool.or_eq_true] at hx
  rcases hx with hx | hx
  · exact h x hx
  · exact h' x hx
theorem ps_le.l (a b : Nat) : ps_le a (a ||| b) := fun x hx => by rw [Nat.testBit_or, hx]; rfl
theorem ps_le.r (a b : Nat) : ps_le b (a ||| b) := fun x hx => by rw [Nat.testBit_or, hx, Bool.or_true]
theorem ps_le.lt {a n : Nat} (h : a < 2 ^ n) : ps_le a (2 ^ n - 1) := fun x hx => by
  rw [Nat.testBit_two_pow_sub_one]
  apply decide_eq_true
  rcases Nat.lt_or_ge x n with z | z
  · exact z
  · rw [Nat.testBit_lt_two_pow (Nat.lt_of_lt_of_le h (Nat.pow_le_pow_right (by omega) z))] at hx
    exact absurd hx (by decide)
theorem ps_lt_of_le {a n : Nat} (h : ps_le a (2 ^ n - 1)) : a < 2 ^ n := by
  apply Nat.lt_pow_two_of_testBit
  intro i hi
  apply Bool.eq_false_iff.mpr
  intro hb
  have := h i hb
  rw [Nat.testBit_two_pow_sub_one] at this
  have := of_decide_eq_true this
  omega
section Cl
variable {S : ps_S} {L : List Nat}
def ps_cld (S : ps_S) (L : List Nat) (c : Nat) : Prop := ∀ e, e ∈ L → ps_le (ps_us S e) c → c.testBit (S.hd e) = true
def ps_cl (S : ps_S) (L : List Nat) (k : Nat) : Nat := (ps_lrn S L L.length k 0).1
theorem ps_f_fix {k : Nat} : ps_f S L k = k ↔ ps_cld S L k := by
  constructor
  · intro h e he hu
    rw [← h]
    exact ps_gvl_bit.mpr (Or.inr ⟨e, he, ps_dif0.mpr hu, rfl⟩)
  · intro h
    apply ps_bx
    intro x
    rw [ps_f, ps_gvl_bit]
    constructor
    · rintro (h1 | ⟨e, h1, h2, h3⟩)
      · exact h1
      · rw [← h3]; exact h e h1 (ps_dif0.mp h2)
    · exact Or.inl
theorem ps_f_ge (k : Nat) : ps_le k (ps_f S L k) := fun x hx => ps_gvl_bit.mpr (Or.inl hx)
theorem ps_f_min {k c : Nat} (hk : ps_le k c) (hc : ps_cld S L c) : ps_le (ps_f S L k) c := fun x hx => by
  rcases ps_gvl_bit.mp hx with h1 | ⟨e, h1, h2, h3⟩
  · exact hk x h1
  · rw [← h3]; exact hc e h1 ((ps_dif0.mp h2).tr hk)
theorem ps_lrn_all : ∀ (j k r : Nat), ps_le k (ps_lrn S L j k r).1 ∧ (∀ c, ps_le k c → ps_cld S L c → ps_le (ps_lrn S L j k r).1 c) ∧ (ps_ms S L k ≤ j → ps_cld S L (ps_lrn S L j k r).1)
  | 0, k, r => ⟨ps_le.rf k, fun _ h _ => h, fun h => (show ps_cld S L k from ps_f_fix.mp (Classical.byContradiction (fun hc => by
      have := ps_ms_lt hc
      omega)))⟩
  | j + 1, k, r => by
    rw [ps_lrn]
    by_cases hc : ps_f S L k = k
    · rw [if_pos hc]
      exact ⟨ps_le.rf k, fun _ h _ => h, fun _ => ps_f_fix.mp hc⟩
    · rw [if_neg hc]
      have ih := ps_lrn_all j (ps_f S L k) (r + 1)
      have hms := ps_ms_lt hc
      exact ⟨(ps_f_ge k).tr ih.1, fun c h1 h2 => ih.2.1 c (ps_f_min h1 h2) h2, fun h => ih.2.2 (by omega)⟩
theorem ps_cl_ge (k : Nat) : ps_le k (ps_cl S L k) := (ps_lrn_all _ _ _).1
theorem ps_cl_min {k c : Nat} (h : ps_le k c) (hc : ps_cld S L c) : ps_le (ps_cl S L k) c := (ps_lrn_all _ _ _).2.1 c h hc
theorem ps_cl_cld (k : Nat) : ps_cld S L (ps_cl S L k) := (ps_lrn_all _ _ _).2.2 (ps_ms_le S L k)
theorem ps_cl_mono {a b : Nat} (h : ps_le a b) : ps_le (ps_cl S L a) (ps_cl S L b) := ps_cl_min (h.tr (ps_cl_ge b)) (ps_cl_cld b)
theorem ps_cl_or {a b : Nat} : ps_cl S L (ps_cl S L a ||| b) = ps_cl S L (a ||| b) :=
  ps_le.as (ps_cl_min ((ps_cl_mono (ps_le.l a b)).or ((ps_le.r a b).tr (ps_cl_ge _))) (ps_cl_cld _)) (ps_cl_mono (((ps_cl_ge a).tr (ps_le.l _ b)).or (ps_le.r _ b)))
theorem ps_cl_lt {n k : Nat} (hL : ∀ e, e ∈ L → S.hd e < n) (hk : k < 2 ^ n) : ps_cl S L k < 2 ^ n := by
  apply ps_lt_of_le
  refine ps_cl_min (ps_le.lt hk) (fun e he _ => ?_)
  rw [Nat.testBit_two_pow_sub_one]
  exact decide_eq_true (hL e he)
theorem ps_cl_uni {k c : Nat} (h1 : ps_le k c) (h2 : ps_cld S L c) (h3 : ps_le c (ps_cl S L k)) : c = ps_cl S L k := ps_le.as h3 (ps_cl_min h1 h2)
/-! sets by size and value -/
theorem ps_dif_pow_lt {Z w : Nat} (h1 : Z < 2 ^ (w + 1)) : ps_dif Z (2 ^ w) < 2 ^ w := by
  apply Nat.lt_pow_two_of_testBit
  intro i hi
  rw [ps_dif_bit, Nat.testBit_two_pow]
  by_cases hiw : w = i
  · subst hiw; simp
  · rw [Nat.testBit_lt_two_pow (Nat.lt_of_lt_of_le h1 (Nat.pow_le_pow_right (by omega) (by omega)))]
    rfl
theorem ps_dif_or {Z w : Nat} (h : Z.testBit w = true) : ps_dif Z (2 ^ w) ||| 2 ^ w = Z := by
  apply Nat.eq_of_testBit_eq
  intro i
  rw [Nat.testBit_or, ps_dif_bit, Nat.testBit_two_pow]
  by_cases hiw : w = i
  · subst hiw; simp [h]
  · simp [hiw]
theorem ps_top {Z top : Nat} (h : Z < 2 ^ top) (h0 : Z ≠ 0) : ∃ w, w < top ∧ Z.testBit w = true ∧ Z < 2 ^ (w + 1) := by
  induction top with
  | zero =>
    rw [Nat.pow_zero] at h
    omega
  | succ t ih =>
    cases hb : Z.testBit t with
    | true => exact ⟨t, by omega, hb, h⟩
    | false =>
      have : Z < 2 ^ t := by
        apply Nat.lt_pow_two_of_testBit
        intro i hi
        by_cases hit : i = t
        · subst hit; exact hb
        · exact Nat.testBit_lt_two_pow (Nat.lt_of_lt_of_le h (Nat.pow_le_pow_right (by omega) (by omega)))
      obtain ⟨w, a, b, c⟩ := ih this
      exact ⟨w, by omega, b, c⟩
theorem ps_or_add {a w : Nat} (h : a < 2 ^ w) : a ||| 2 ^ w = a + 2 ^ w := by
  have := Nat.two_pow_add_eq_or_of_lt h 1
  rw [Nat.mul_one] at this
  rw [Nat.or_comm, ← this, Nat.add_comm]
/-- the number of words in a set below n -/
theorem ps_cnt_or {a w : Nat} : ∀ {n : Nat}, w < n → a.testBit w = false → ps_cnt (fun k => (a ||| 2 ^ w).testBit k) n = ps_cnt (fun k => a.testBit k) n + 1
  | 0, h, _ => by omega
  | n + 1, h, hb => by
    rw [ps_cnt, ps_cnt, Nat.testBit_or, Nat.testBit_two_pow]
    by_cases hw : w = n
    · subst hw
      have : ∀ m, m ≤ w → ps_cnt (fun k => (a ||| 2 ^ w).testBit k) m = ps_cnt (fun k => a.testBit k) m := by
        intro m
        induction m with
        | zero => intro _; rfl
        | succ m ih =>
          intro hm
          rw [ps_cnt, ps_cnt, ih (by omega), Nat.testBit_or, Nat.testBit_two_pow, decide_eq_false (show ¬ w = m by omega), Bool.or_false]
      rw [this w (Nat.le_refl _), hb, decide_eq_true rfl]
      rfl
    · rw [ps_cnt_or (n := n) (by omega) hb, decide_eq_false hw, Bool.or_false]
      omega
theorem ps_cnt0 : ∀ n, ps_cnt (fun k => (0 : Nat).testBit k) n = 0
  | 0 => rfl
  | n + 1 => by rw [ps_cnt, ps_cnt0 n]; simp
/-! the search -/
def ps_pl (F : Nat → Option Nat) : Nat → Nat → Option Nat
  | 0, _ => none
  | k + 1, w => match F w with
    | some x => some x
    | none => ps_pl F k (w + 1)
def ps_pk (S : ps_S) (L : List Nat) (g ch : Nat) : Nat → Nat → Nat → Option Nat
  | 0, _, kn => if ps_dif g kn = 0 then some 0 else none
  | s + 1, top, kn => ps_pl (fun w => if ch.testBit w = true ∧ kn.testBit w = false then (match ps_pk S L g ch s w (ps_cl S L (kn ||| 2 ^ w)) with | some y => some (y ||| 2 ^ w) | none => none) else none) (top - s) s
def ps_vl (S : ps_S) (L : List Nat) (g ch : Nat) : Nat → Nat → Nat → Nat → Prop
  | 0, _, kn, Y => Y = 0 ∧ ps_le g kn
  | s + 1, top, kn, Y => ∃ w Y', w < top ∧ ch.testBit w = true ∧ kn.testBit w = false ∧ Y = Y' ||| 2 ^ w ∧ ps_vl S L g ch s w (ps_cl S L (kn ||| 2 ^ w)) Y'
theorem ps_vl_lt {g ch : Nat} : ∀ {s top kn Y : Nat}, ps_vl S L g ch s top kn Y → Y < 2 ^ top ∧ s ≤ top
  | 0, top, kn, Y, h => by rw [h.1]; exact ⟨Nat.two_pow_pos _, Nat.zero_le _⟩
  | s + 1, top, kn, Y, h => by
    obtain ⟨w, Y', h1, h2, h3, h4, h5⟩ := h
    obtain ⟨a, b⟩ := ps_vl_lt h5
    have h6 : 2 ^ w < 2 ^ top := Nat.pow_lt_pow_right (by omega) h1
    rw [h4]
    exact ⟨Nat.or_lt_two_pow (by omega) h6, by omega⟩
theorem ps_pl_some {F : Nat → Option Nat} {x : Nat} : ∀ {k w : Nat}, ps_pl F k w = some x → ∃ v, w ≤ v ∧ v < w + k ∧ F v = some x ∧ ∀ u, w ≤ u → u < v → F u = none
  | 0, w, h => by simp [ps_pl] at h
  | k + 1, w, h => by
    rw [ps_pl] at h
    cases hF : F w with
    | some y =>
      rw [hF] at h
      exact ⟨w, Nat.le_refl _, by omega, by rw [hF]; exact h, fun u h1 h2 => by omega⟩
    | none =>
      rw [hF] at h
      obtain ⟨v, a, b, c, e⟩ := ps_pl_some (k := k) h
      refine ⟨v, by omega, by omega, c, fun u h1 h2 => ?_⟩
      by_cases hu : u = w
      · rw [hu]; exact hF
      · exact e u (by omega) h2
theorem ps_pl_none {F : Nat → Option Nat} : ∀ {k w : Nat}, ps_pl F k w = none → ∀ u, w ≤ u → u < w + k → F u = none
  | 0, w, _, u, h1, h2 => by omega
  | k + 1, w, h, u, h1, h2 => by
    rw [ps_pl] at h
    cases hF : F w with
    | some y => rw [hF] at h; exact absurd h (by simp)
    | none =>
      rw [hF] at h
      by_cases hu : u = w
      · rw [hu]; exact hF
      · exact ps_pl_none (k := k) h u (by omega) (by omega)
theorem ps_pk_spec {g ch : Nat} : ∀ (s top kn : Nat), (∀ Y, ps_pk S L g ch s top kn = some Y → ps_vl S L g ch s top kn Y ∧ ∀ Z, ps_vl S L g ch s top kn Z → Y ≤ Z) ∧ (ps_pk S L g ch s top kn = none → ∀ Z, ¬ ps_vl S L g ch s top kn Z)
  | 0, top, kn => by
    rw [ps_pk]
    by_cases h : ps_dif g kn = 0
    · rw [if_pos h]
      refine ⟨fun Y hY => ?_, fun hn => absurd hn (by simp)⟩
      cases hY
      exact ⟨⟨rfl, ps_dif0.mp h⟩, fun Z _ => Nat.zero_le Z⟩
    · rw [if_neg h]
      exact ⟨fun Y hY => absurd hY (by simp), fun _ Z hZ => h (ps_dif0.mpr hZ.2)⟩
  | s + 1, top, kn => by
    rw [ps_pk]
    have Fs : ∀ w x, (if ch.testBit w = true ∧ kn.testBit w = false then (match ps_pk S L g ch s w (ps_cl S L (kn ||| 2 ^ w)) with | some y => some (y ||| 2 ^ w) | none => none) else none) = some x → ch.testBit w = true ∧ kn.testBit w = false ∧ ∃ y, ps_pk S L g ch s w (ps_cl S L (kn ||| 2 ^ w)) = some y ∧ x = y ||| 2 ^ w := by
      intro w x hx
      by_cases hc : ch.testBit w = true ∧ kn.testBit w = false
      · rw [if_pos hc] at hx
        cases hp : ps_pk S L g ch s w (ps_cl S L (kn ||| 2 ^ w)) with
        | some y =>
          rw [hp] at hx
          exact ⟨hc.1, hc.2, y, rfl, (Option.some.inj hx).symm⟩
        | none => rw [hp] at hx; exact absurd hx (by simp)
      · rw [if_neg hc] at hx; exact absurd hx (by simp)
    have Fn : ∀ w, (if ch.testBit w = true ∧ kn.testBit w = false then (match ps_pk S L g ch s w (ps_cl S L (kn ||| 2 ^ w)) with | some y => some (y ||| 2 ^ w) | none => none) else none) = none → ch.testBit w = true → kn.testBit w = false → ps_pk S L g ch s w (ps_cl S L (kn ||| 2 ^ w)) = none := by
      intro w hx h1 h2
      rw [if_pos ⟨h1, h2⟩] at hx
      cases hp : ps_pk S L g ch s w (ps_cl S L (kn ||| 2 ^ w)) with
      | some y => rw [hp] at hx; exact absurd hx (by simp)
      | none => rfl
    constructor
    · intro Y hY
      obtain ⟨w, h1, h2, h3, h4⟩ := ps_pl_some hY
      obtain ⟨f1, f2, y, f3, f4⟩ := Fs w Y h3
      obtain ⟨v1, v2⟩ := (ps_pk_spec s w (ps_cl S L (kn ||| 2 ^ w))).1 y f3
      refine ⟨⟨w, y, by omega, f1, f2, f4, v1⟩, fun Z hZ => ?_⟩
      obtain ⟨w', Z', z1, z2, z3, z4, z5⟩ := hZ
      have zl := ps_vl_lt z5
      have yl := ps_vl_lt v1
      have eZ : Z = Z' + 2 ^ w' := by rw [z4, ps_or_add zl.1]
      have eY : Y = y + 2 ^ w := by rw [f4, ps_or_add yl.1]
      rcases Nat.lt_trichotomy w w' with hl | hl | hl
      · have : 2 ^ (w + 1) ≤ 2 ^ w' := Nat.pow_le_pow_right (by omega) hl
        have e2 : 2 ^ (w + 1) = 2 ^ w + 2 ^ w := by rw [Nat.pow_succ]; omega
        omega
      · subst hl
        have := v2 Z' z5
        omega
      · have hn := Fn w' (h4 w' (by omega) hl) z2 z3
        exact absurd z5 ((ps_pk_spec s w' (ps_cl S L (kn ||| 2 ^ w'))).2 hn Z')
    · intro hn Z hZ
      obtain ⟨w', Z', z1, z2, z3, z4, z5⟩ := hZ
      have zl := ps_vl_lt z5
      have hn' := Fn w' (ps_pl_none hn w' (by omega) (by omega)) z2 z3
      exact (ps_pk_spec s w' (ps_cl S L (kn ||| 2 ^ w'))).2 hn' Z' z5
/-- a valid choice reaches the goal -/
theorem ps_vl_good {g ch : Nat} : ∀ {s top kn Y : Nat}, ps_vl S L g ch s top kn Y → ps_le g (ps_cl S L (kn ||| Y))
  | 0, top, kn, Y, h => by
    rw [h.1, Nat.or_zero]
    exact h.2.tr (ps_cl_ge kn)
  | s + 1, top, kn, Y, h => by
    obtain ⟨w, Y', h1, h2, h3, h4, h5⟩ := h
    have := ps_vl_good h5
    rw [ps_cl_or, Nat.or_assoc, Nat.or_comm (2 ^ w) Y'] at this
    rw [h4]
    exact this
/-- its words: choices, and as many as it should have -/
theorem ps_vl_bits {g ch : Nat} : ∀ {s top kn Y : Nat}, ps_vl S L g ch s top kn Y → (∀ x, Y.testBit x = true → ch.testBit x = true ∧ kn.testBit x = false) ∧ ∀ n, top ≤ n → ps_cnt (fun k => Y.testBit k) n = s
  | 0, top, kn, Y, h => by
    rw [h.1]
    exact ⟨fun x hx => absurd hx (by simp), fun n _ => ps_cnt0 n⟩
  | s + 1, top, kn, Y, h => by
    obtain ⟨w, Y', h1, h2, h3, h4, h5⟩ := h
    obtain ⟨a, b⟩ := ps_vl_bits h5
    have hl := ps_vl_lt h5
    subst h4
    refine ⟨fun x hx => ?_, fun n hn => ?_⟩
    · rw [Nat.testBit_or, Bool.or_eq_true, Nat.testBit_two_pow, decide_eq_true_eq] at hx
      rcases hx with hx | hx
      · obtain ⟨c1, c2⟩ := a x hx
        refine ⟨c1, ?_⟩
        cases hk : kn.testBit x with
        | false => rfl
        | true =>
          have := ps_cl_ge (S := S) (L := L) (kn ||| 2 ^ w) x (ps_le.l _ _ x hk)
          rw [c2] at this
          exact absurd this (by decide)
      · rw [← hx]; exact ⟨h2, h3⟩
    · rw [ps_cnt_or (by omega) (Nat.testBit_lt_two_pow hl.1), b n (by omega)]
/-- words none of which is idle make a valid choice -/
theorem ps_vl_of {g ch X A : Nat} : ∀ {s top H Z : Nat}, Z < 2 ^ top → ps_cnt (fun k => Z.testBit k) 16 = s → top ≤ 16 → ps_le g (ps_cl S L X) → X = A ||| H ||| Z → (∀ x, H.testBit x = true → top ≤ x) → (∀ x, Z.testBit x = true → A.testBit x = false ∧ ch.testBit x = true ∧ (ps_cl S L (ps_dif X (2 ^ x))).testBit x = false) → ps_vl S L g ch s top (ps_cl S L (A ||| H)) Z
  | 0, top, H, Z, hZ, hs, ht, hg, hX, hH, hz => by
    have h0 : Z = 0 := by
      apply Classical.byContradiction
      intro hne
      obtain ⟨w, w1, w2, w3⟩ := ps_top hZ hne
      have := ps_cnt_ge (p := fun k => Z.testBit k) (e := w) (n := 16) (by omega)
      rw [w2, hs] at this
      exact absurd this (by decide)
    subst h0
    rw [Nat.or_zero] at hX
    exact ⟨rfl, by rw [← hX]; exact hg⟩
  | s + 1, top, H, Z, hZ, hs, ht, hg, hX, hH, hz => by
    have hne : Z ≠ 0 := by
      intro h0
      subst h0
      rw [ps_cnt0] at hs
      omega
    obtain ⟨w, w1, w2, w3⟩ := ps_top hZ hne
    obtain ⟨z1, z2, z3⟩ := hz w w2
    have hlt := ps_dif_pow_lt w3
    have heq := ps_dif_or w2
    have hHw : H.testBit w = false := by
      cases hb : H.testBit w with
      | false => rfl
      | true => have := hH w hb; omega
    have hsub : ps_le (A ||| H) (ps_dif X (2 ^ w)) := fun x hx => by
      have hxw : ¬ w = x := by
        intro e
        subst e
        rw [Nat.testBit_or, z1, hHw] at hx
        exact absurd hx (by decide)
      rw [ps_dif_bit, hX, Nat.testBit_two_pow, decide_eq_false hxw, Nat.testBit_or, hx]
      rfl
    refine ⟨w, ps_dif Z (2 ^ w), w1, z2, ?_, heq.symm, ?_⟩
    · cases hb : (ps_cl S L (A ||| H)).testBit w with
      | false => rfl
      | true =>
        have := ps_cl_mono hsub w hb
        rw [z3] at this
        exact absurd this (by decide)
    · rw [ps_cl_or, Nat.or_assoc]
      refine ps_vl_of hlt ?_ (by omega) hg ?_ (fun x hx => ?_) (fun x hx => ?_)
      · have h1 := ps_cnt_or (a := ps_dif Z (2 ^ w)) (w := w) (n := 16) (by omega) (Nat.testBit_lt_two_pow hlt)
        rw [heq, hs] at h1
        omega
      · rw [hX, ← heq]
        rw [Nat.or_assoc, Nat.or_assoc, Nat.or_assoc, Nat.or_comm (ps_dif Z (2 ^ w)) (2 ^ w)]
        have : ps_dif (ps_dif Z (2 ^ w) ||| 2 ^ w) (2 ^ w) = ps_dif Z (2 ^ w) := by rw [heq]
        rw [Nat.or_comm (2 ^ w) (ps_dif Z (2 ^ w)), this, Nat.or_comm (2 ^ w) (ps_dif Z (2 ^ w))]
      · rw [Nat.testBit_or, Bool.or_eq_true, Nat.testBit_two_pow, decide_eq_true_eq] at hx
        rcases hx with hx | hx
        · have := hH x hx; omega
        · omega
      · rw [ps_dif_bit, Bool.and_eq_true] at hx
        exact hz x hx.1
end Cl
