variable {bG : Nat}
/-! cut and least: the trial of all sets -/
def ps_bt (b : Option Nat) (s : Nat) : Bool := match b with
  | none => true
  | some X => decide (ps_pc s < ps_pc X)
def ps_bf (G : Nat → Bool) : Nat → Nat → Option Nat → Option Nat
  | 0, _, b => b
  | k + 1, s, b => ps_bf G k (s + 1) (if ps_bt b s = true ∧ G s = true then some s else b)
def ps_bi (G : Nat → Bool) (s : Nat) (b : Option Nat) : Prop := (b = none → ∀ Z, Z < s → G Z = false) ∧ ∀ X, b = some X → X < s ∧ G X = true ∧ ∀ Z, Z < s → G Z = true → ps_pc X ≤ ps_pc Z ∧ (ps_pc Z = ps_pc X → X ≤ Z)
theorem ps_bf_spec {G : Nat → Bool} : ∀ (k s : Nat) (b : Option Nat), ps_bi G s b → ps_bi G (s + k) (ps_bf G k s b)
  | 0, s, b, h => h
  | k + 1, s, b, h => by
    rw [ps_bf, show s + (k + 1) = s + 1 + k by omega]
    apply ps_bf_spec k (s + 1)
    by_cases hc : ps_bt b s = true ∧ G s = true
    · rw [if_pos hc]
      refine ⟨fun hn => absurd hn (by simp), fun X hX => ?_⟩
      cases hX
      refine ⟨by omega, hc.2, fun Z hZ hG => ?_⟩
      by_cases hzs : Z = s
      · subst hzs; exact ⟨Nat.le_refl _, fun _ => Nat.le_refl _⟩
      · cases hb : b with
        | none =>
          have := h.1 hb Z (by omega)
          rw [this] at hG
          exact absurd hG (by decide)
        | some X =>
          have h1 := h.2 X hb
          have h2 := (h1.2.2 Z (by omega) hG).1
          have h3 := hc.1
          rw [hb] at h3
          have h3 : ps_pc s < ps_pc X := of_decide_eq_true h3
          exact ⟨by omega, fun e => by omega⟩
    · rw [if_neg hc]
      refine ⟨fun hn Z hZ => ?_, fun X hX => ?_⟩
      · by_cases hzs : Z = s
        · subst hzs
          cases hG : G Z with
          | false => rfl
          | true => exact absurd ⟨by rw [hn]; rfl, hG⟩ hc
        · exact h.1 hn Z (by omega)
      · have h1 := h.2 X hX
        refine ⟨by omega, h1.2.1, fun Z hZ hG => ?_⟩
        by_cases hzs : Z = s
        · subst hzs
          have h3 : ¬ ps_bt b Z = true := fun z => hc ⟨z, hG⟩
          rw [hX] at h3
          have h3 : ¬ ps_pc Z < ps_pc X := fun z => h3 (decide_eq_true z)
          exact ⟨by omega, fun _ => by omega⟩
        · exact h1.2.2 Z (by omega) hG
def ps_gd (S : ps_S) (L : List Nat) (st g X : Nat) : Bool := decide (ps_dif g (ps_cl S L (st ||| X)) = 0)
def ps_opt (S : ps_S) (L : List Nat) (st g : Nat) : Option Nat := ps_bf (ps_gd S L st g) (2 ^ S.w) 0 none
theorem ps_gd_iff {S : ps_S} {L : List Nat} {st g X : Nat} : ps_gd S L st g X = true ↔ ps_good S L st g X := by
  rw [ps_gd, decide_eq_true_eq, ps_dif0]
  rfl
section Ops26
variable {S : ps_S} {L : List Nat}
theorem ps_opt_few (hw : S.w ≤ 16) {st g : Nat} (hg : g < 2 ^ S.w) (hu : ∀ e, e ∈ L → ps_us S e < 2 ^ S.w) : ∃ X0 s Y, ps_opt S L st g = some X0 ∧ s ≤ 16 ∧ (∀ s', s' < s → ps_pk S L g (ps_chs S L g (ps_cl S L (st ||| ps_forced S L st g))) s' 16 (ps_cl S L (st ||| ps_forced S L st g)) = none) ∧ ps_pk S L g (ps_chs S L g (ps_cl S L (st ||| ps_forced S L st g))) s 16 (ps_cl S L (st ||| ps_forced S L st g)) = some Y ∧ X0 = ps_forced S L st g ||| Y := by
  have hb : ps_bi (ps_gd S L st g) (0 + 2 ^ S.w) (ps_opt S L st g) := ps_bf_spec (2 ^ S.w) 0 none ⟨fun _ Z hZ => by omega, fun X hX => absurd hX (by simp)⟩
  rw [Nat.zero_add] at hb
  have hp := Nat.two_pow_pos S.w
  cases ho : ps_opt S L st g with
  | none =>
    have h1 := hb.1 ho (2 ^ S.w - 1) (by omega)
    have h2 : ps_gd S L st g (2 ^ S.w - 1) = true := ps_gd_iff.mpr ((ps_le.lt hg).tr ((ps_le.r st _).tr (ps_cl_ge _)))
    rw [h1] at h2
    exact absurd h2 (by decide)
  | some X0 =>
    obtain ⟨h1, h2, h3⟩ := hb.2 X0 ho
    obtain ⟨s, Y, a1, a2, a3, a4⟩ := ps_few (S := S) (L := L) (w := S.w) (st := st) (g := g) (X0 := X0) hw hg hu h1 (ps_gd_iff.mp h2) (fun X hX hG => h3 X hX (ps_gd_iff.mpr hG))
    exact ⟨X0, s, Y, rfl, a1, a2, a3, a4⟩
theorem ps_rg_Lb (hW : ps_Wf S) : ps_Lb S (ps_rg S.n 0) ∧ ∀ e, e ∈ ps_rg S.n 0 → ps_us S e < 2 ^ S.w := by
  have n12 : S.n ≤ 12 := hW.2.2.2.2.2.2.1
  refine ⟨⟨by rw [ps_rg_len]; exact n12, fun e he => ?_⟩, fun e he => ?_⟩
  · obtain ⟨g1, g2, g3, g4, g5, g6, g7, g8, g9⟩ := hW.e (e := e) (by have := ps_rg_mem.mp he; omega)
    exact ⟨by omega, g9⟩
  · exact (hW.e (e := e) (by have := ps_rg_mem.mp he; omega)).2.2.2.2.2.2.2.1
def ps_nds (S : ps_S) : Nat := (ps_rg S.n 0).foldl (fun a e => a ||| ps_us S e) 0
theorem ps_nds_lt (hW : ps_Wf S) : ps_nds S < 2 ^ S.w := by
  apply Nat.lt_pow_two_of_testBit
  intro i hi
  apply Bool.eq_false_iff.mpr
  intro hb
  rcases ps_fold_bit.mp hb with h | ⟨e, h1, h2⟩
  · exact absurd h (by simp)
  · rw [Nat.testBit_lt_two_pow (Nat.lt_of_lt_of_le ((ps_rg_Lb hW).2 e h1) (Nat.pow_le_pow_right (by omega) hi))] at h2
    exact absurd h2 (by decide)
end Ops26
def ps_cut (O : ps_O) : Int32 := ps_oi (ps_opt O.S (ps_rg O.S.n 0) O.S.kn (ps_nds O.S))
def ps_least (O : ps_O) : Int32 := ps_oi (ps_opt O.S (ps_fxl O.S) 0 (ps_mask O.S.hd O.S.n))
theorem C_cut (d : Nat) (O : ps_O) (hO : ps_Ow O) : ps_sC bG (d + 20) 919 [.ref 0] O (some (.int (ps_cut O))) O := by
  intro μ h
  have hW := hO.1
  have hw : O.S.w ≤ 16 := hW.1
  have p16 : 2 ^ O.S.w ≤ 2 ^ 16 := Nat.pow_le_pow_right (by omega) hw
  obtain ⟨l1, l2⟩ := ps_rg_Lb hW
  have hn := ps_nds_lt hW
  obtain ⟨X0, s, Y, o1, o2, o3, o4, o5⟩ := ps_opt_few (S := O.S) (L := ps_rg O.S.n 0) (st := O.S.kn) (g := ps_nds O.S) hw hn l2
  obtain ⟨μ1, a1, a2, a3⟩ := w501 (d + 16) hW h.1
  have hk : μ1 1 6 = nI O.S.kn := by rw [a2 1 (by decide)]; exact h.1.2.2.1
  obtain ⟨μ2, b1, b2⟩ := w509 d a3 l1 (ps_kn_lt hW) (show ps_nds O.S < 65536 by omega) o2 o3 o4
  have sc : ps_scC μ μ2 := (ps_scC.of a2 rfl).tr (ps_scC.of b2 rfl)
  rw [e919, q919_0, a1, am_bV_ret, w504 (d + 18) a3 l1, am_bI_ret, hk, show (ps_rg O.S.n 0).foldl (fun a e => a ||| ps_us O.S e) 0 = ps_nds O.S from rfl, b1, am_bI_ret, ps_cut, o1]
  exact ⟨μ2, by rw [← o5]; rfl, sc.I h, sc.k⟩
theorem C_least (d : Nat) (O : ps_O) (hO : ps_Ow O) : ps_sC bG (d + 20) 920 [.ref 0] O (some (.int (ps_least O))) O := by
  intro μ h
  have hW := hO.1
  have hw : O.S.w ≤ 16 := hW.1
  have n12 : O.S.n ≤ 12 := hW.2.2.2.2.2.2.1
  have p16 : 2 ^ O.S.w ≤ 2 ^ 16 := Nat.pow_le_pow_right (by omega) hw
  have l1 : ps_Lb O.S (ps_fxl O.S) := ps_fxl_mem hW
  have l2 : ∀ e, e ∈ ps_fxl O.S → ps_us O.S e < 2 ^ O.S.w := fun e he => (ps_rg_Lb hW).2 e (List.mem_filter.mp he).1
  have hn : ps_mask O.S.hd O.S.n < 2 ^ O.S.w := ps_mask_lt (fun i hi => (hW.e hi).2.2.2.1)
  obtain ⟨X0, s, Y, o1, o2, o3, o4, o5⟩ := ps_opt_few (S := O.S) (L := ps_fxl O.S) (st := 0) (g := ps_mask O.S.hd O.S.n) hw hn l2
  obtain ⟨μ1, a1, a2, a3⟩ := w502 (d + 14) hW hO.2.1 h.1 h.2.1
  obtain ⟨μ2, b1, b2⟩ := w509 d a3 l1 (show 0 < 65536 by omega) (show ps_mask O.S.hd O.S.n < 65536 by omega) o2 o3 o4
  have sc : ps_scC μ μ2 := a2.tr (ps_scC.of b2 rfl)
  rw [e920, q920_0, a1, am_bV_ret, w716 (d + 18) (a2.R h.1) hW, am_bI_ret, show am_c 0 = nI 0 from rfl, b1, am_bI_ret, ps_least, o1]
  exact ⟨μ2, by rw [← o5]; rfl, sc.I h, sc.k⟩
/-! the model -/
section Ops26b
variable {S : ps_S}
theorem ps_and_le {a h : Nat} : a &&& h = h ↔ ps_dif h a = 0 := by
  rw [ps_dif0]
  constructor
  · intro e x hx
    rw [← e, Nat.testBit_and, Bool.and_eq_true] at hx
    exact hx.1
  · intro e
    apply ps_bx
    intro x
    rw [Nat.testBit_and, Bool.and_eq_true]
    exact ⟨fun z => z.2, fun z => ⟨e x z, z⟩⟩
theorem ps_oi_m1 {b : Option Nat} (h : ∀ X, b = some X → X < 65536) : (ps_oi b = am_c (-1)) ↔ b = none := by
  cases hb : b with
  | none => exact ⟨fun _ => rfl, fun _ => rfl⟩
  | some X => exact ⟨fun e => absurd e (nI_m1 (by have := h X hb; omega)), fun e => absurd e (by simp)⟩
theorem v1062 (d : Nat) {μ : am_Mem} (hR : ps_Rm 57 S μ) (hW : ps_Wf S) : am_call (d + 2) 1062 [.ref 56] μ = am_ret (some (.int (nI (ps_mask S.hd S.n)))) μ := by
  have n12 : S.n ≤ 12 := hW.2.2.2.2.2.2.1
  have r8 : μ 57 1 = nI S.n := hR.2.2.2.2.2.2.2.1
  have lp : ∀ m e, e + m = S.n → am_ev (am_call (d + 1)) 1062 4 [.ref 56, .int (nI (ps_mask S.hd e)), .int (nI e)] [] μ = am_ret (some (.int (nI (ps_mask S.hd S.n)))) μ := by
    intro m
    induction m with
    | zero =>
      intro e he
      have he : e = S.n := he
      subst he
      rw [q1062_4, r8, if_pos (by rw [am_leN (by omega) (by omega)]; omega), q1062_31]
    | succ m ih =>
      intro e he
      have hw := (hW.e (e := e) (by omega)).2.2.2.1
      have hw16 : S.w ≤ 16 := hW.1
      rw [q1062_4, r8, if_neg (by rw [am_leN (by omega) (by omega)]; omega), show am_c 0 = nI 0 from rfl, m1005 d (by omega), am_bI_ret, show μ 57 (45 + 5 * e + 0) = nI (S.hd e) from hR.2.2.2.2.2.2.2.2.1 e (by omega), show am_c 1 = nI 1 from rfl, am_shl1 (by omega), am_or, nI_add]
      exact ih (e + 1) (by omega)
  rw [e1062, q1062_0]
  exact lp S.n 0 (by omega)
theorem v1063_13 (d : Nat) (hW : ps_Wf S) : ∀ k s (b : Option Nat) (μ : am_Mem), ps_Rm 57 S μ → (∀ j, j < S.n → μ 66 j = nI (ps_us S j) ∧ μ 67 j = nI (ps_fxe S j).toNat) → s + k = 2 ^ S.w → (∀ X, b = some X → X < s) → ∃ μ', am_ev (am_call (d + 2)) 1063 13 [.ref 56, .int (nI (ps_mask S.hd S.n)), .int (ps_oi b), .int (nI s)] [] μ = am_ret (some (.int (ps_oi (ps_bf (ps_gd S (ps_fxl S) 0 (ps_mask S.hd S.n)) k s b)))) μ' ∧ ps_scM μ μ' := by
  have hw : S.w ≤ 16 := hW.1
  have p16 : 2 ^ S.w ≤ 2 ^ 16 := Nat.pow_le_pow_right (by omega) hw
  have hh := ps_hm_lt hW (e := S.n) (Nat.le_refl _)
  have hm := ps_fxl_mem hW
  intro k
  induction k with
  | zero =>
    intro s b μ hR h6 hs hb
    rw [q1063_13, show μ 57 0 = nI S.w from hR.1, show am_c 1 = nI 1 from rfl, am_shl1 (by omega), if_pos (by rw [am_leN (by omega) (by omega)]; omega), q1063_60]
    exact ⟨μ, rfl, ps_scM.rf μ⟩
  | succ k ih =>
    intro s b μ hR h6 hs hb
    have hb' : ∀ X, b = some X → X < 65536 := fun X hX => by have := hb X hX; omega
    have nx : ∀ (μ1 : am_Mem) (b1 : Option Nat), ps_scM μ μ1 → (μ1 66 = μ 66 ∧ μ1 67 = μ 67) → b1 = (if ps_bt b s = true ∧ ps_gd S (ps_fxl S) 0 (ps_mask S.hd S.n) s = true then some s else b) → ∃ μ', am_ev (am_call (d + 2)) 1063 54 [.ref 56, .int (nI (ps_mask S.hd S.n)), .int (ps_oi b1), .int (nI s)] [] μ1 = am_ret (some (.int (ps_oi (ps_bf (ps_gd S (ps_fxl S) 0 (ps_mask S.hd S.n)) (k + 1) s b)))) μ' ∧ ps_scM μ μ' := by
      intro μ1 b1 h1 h2 h3
      obtain ⟨μ', a1, a2⟩ := ih (s + 1) b1 μ1 (h1.R hR) (fun j hj => by rw [h2.1, h2.2]; exact h6 j hj) (by omega) (fun X hX => by
        rw [h3] at hX
        split at hX
        · cases hX; omega
        · have := hb X hX; omega)
      rw [q1063_54, am_cN, nI_add, a1, ps_bf, ← h3]
      exact ⟨μ', rfl, h1.tr a2⟩
    have try1 : ps_bt b s = true → ∃ μ', am_ev (am_call (d + 2)) 1063 41 [.ref 56, .int (nI (ps_mask S.hd S.n)), .int (ps_oi b), .int (nI s)] [] μ = am_ret (some (.int (ps_oi (ps_bf (ps_gd S (ps_fxl S) 0 (ps_mask S.hd S.n)) (k + 1) s b)))) μ' ∧ ps_scM μ μ' := by
      intro ht
      obtain ⟨μ1, a1, a2, a3, a4⟩ := v1060 d hW hR h6 (k := s) (by omega)
      have s1 : ps_scM μ μ1 := ⟨fun K hK => a2 K (by omega), fun i hi => a3 i (by omega)⟩
      have hcl : ps_cl S (ps_fxl S) s < 2 ^ 16 := ps_cl_lt (fun e he => (hm.2 e he).1) (by omega)
      have ha : ps_cl S (ps_fxl S) s &&& ps_mask S.hd S.n < 2 ^ 16 := Nat.and_lt_two_pow _ (by omega)
      rw [q1063_41, a1, am_bI_ret, show (ps_lrn S (ps_fxl S) (ps_fxl S).length s 0).1 = ps_cl S (ps_fxl S) s from rfl, am_and]
      by_cases hg : ps_dif (ps_mask S.hd S.n) (ps_cl S (ps_fxl S) s) = 0
      · rw [if_pos (by rw [ps_and_le.mpr hg])]
        exact nx μ1 (some s) s1 ⟨a2 66 (by omega), a2 67 (by omega)⟩ (by rw [if_pos ⟨ht, by rw [ps_gd, Nat.zero_or]; exact decide_eq_true hg⟩])
      · rw [if_neg (by rw [am_eqN (by omega) (by omega), ps_and_le]; exact hg)]
        exact nx μ1 b s1 ⟨a2 66 (by omega), a2 67 (by omega)⟩ (by rw [if_neg (fun z => hg (by have := z.2; rw [ps_gd, Nat.zero_or] at this; exact of_decide_eq_true this))])
    rw [q1063_13, show μ 57 0 = nI S.w from hR.1, show am_c 1 = nI 1 from rfl, am_shl1 (by omega), if_neg (by rw [am_leN (by omega) (by omega)]; omega)]
    cases hbb : b with
    | none =>
      rw [if_pos (show ps_oi none = am_c (-1) from rfl)]
      rw [hbb] at try1
      exact try1 rfl
    | some X =>
      have hX := hb' X hbb
      have pX : ps_pc X ≤ 16 := ps_cnt_le _ _
      have ps : ps_pc s ≤ 16 := ps_cnt_le _ _
      rw [show ps_oi (some X) = nI X from rfl, if_neg (nI_m1 (by omega)), m1007 (d + 1) (by omega), am_bI_ret, m1007 (d + 1) (by omega), am_bI_ret]
      rw [hbb] at try1 nx
      by_cases hc : ps_pc s < ps_pc X
      · rw [if_neg (by rw [am_leN (by omega) (by omega)]; omega)]
        exact try1 (decide_eq_true hc)
      · rw [if_pos (by rw [am_leN (by omega) (by omega)]; omega)]
        exact nx μ (some X) (ps_scM.rf μ) ⟨rfl, rfl⟩ (by rw [if_neg (fun z => hc (of_decide_eq_true z.1))])
theorem ps_fr_none {h l : Nat} : ∀ {k e : Nat}, ps_fr S h l k e = none → ∀ e', e ≤ e' → e' < e + k → ps_rdy S h l e' = false
  | 0, e, _, e', h1, h2 => by omega
  | k + 1, e, hh, e', h1, h2 => by
    rw [ps_fr] at hh
    by_cases hc : ps_rdy S h l e = true
    · rw [if_pos hc] at hh
      exact absurd hh (by simp)
    · rw [if_neg hc] at hh
      by_cases he : e' = e
      · subst he; exact Bool.eq_false_iff.mpr hc
      · exact ps_fr_none (k := k) hh e' (by omega) (by omega)
theorem ps_od_inv {h0 : Nat} : ∀ (j h l : Nat) (r : List Nat), ps_lc S l ≤ j → ps_le h0 h → ps_le h (ps_cl S (ps_rg S.n 0) h0) → (∀ e, e < S.n → l.testBit e = false → h.testBit (S.hd e) = true ∧ ps_le (ps_us S e) (ps_cl S (ps_rg S.n 0) h0)) → l < 2 ^ S.n → ∃ h', ps_le h0 h' ∧ (∀ e, e < S.n → (ps_od S j h l r).2.testBit e = false → h'.testBit (S.hd e) = true ∧ ps_le (ps_us S e) (ps_cl S (ps_rg S.n 0) h0)) ∧ (ps_od S j h l r).2 < 2 ^ S.n ∧ ∀ e, e < S.n → ps_rdy S h' (ps_od S j h l r).2 e = false
  | 0, h, l, r, h1, h2, h3, h4, h5 => ⟨h, h2, h4, h5, fun e he => ps_fr_none (show ps_fr S h l S.n 0 = none from ps_lc_0 (h := h) (l := l) (by omega) S.n 0 (by omega)) e (by omega) (by omega)⟩
  | j + 1, h, l, r, h1, h2, h3, h4, h5 => by
    rw [ps_od]
    cases hf : ps_fr S h l S.n 0 with
    | none => exact ⟨h, h2, h4, h5, fun e he => ps_fr_none hf e (by omega) (by omega)⟩
    | some e =>
      obtain ⟨f1, f2, f3⟩ := ps_fr_some hf
      have f4 := Bool.and_eq_true_iff.mp f3
      have hu : ps_le (ps_us S e) h := ps_dif0.mp (of_decide_eq_true f4.2)
      have hms := ps_lc_lt (S := S) (l := l) (e := e) (by omega) f4.1
      refine ps_od_inv j (h ||| 2 ^ S.hd e) (ps_dif l (2 ^ e)) (r ++ [e]) (by omega) (h2.tr (ps_le.l _ _)) (h3.or (fun x hx => ?_)) (fun e' he' hl' => ?_) (ps_dif_lt h5)
      · rw [Nat.testBit_two_pow, decide_eq_true_eq] at hx
        rw [← hx]
        exact ps_cl_cld h0 e (ps_rg_mem.mpr (by omega)) (hu.tr h3)
      · by_cases hee : e = e'
        · subst hee
          refine ⟨?_, hu.tr h3⟩
          apply ps_le.r
          rw [Nat.testBit_two_pow]
          exact decide_eq_true rfl
        · rw [ps_dif_bit, Nat.testBit_two_pow, decide_eq_false hee, Bool.not_false, Bool.and_true] at hl'
          obtain ⟨a, b⟩ := h4 e' he' hl'
          exact ⟨ps_le.l _ _ _ a, b⟩
theorem ps_od_zero {h0 : Nat} : (ps_od S S.n h0 (2 ^ S.n - 1) []).2 = 0 ↔ ps_dif (ps_nds S) (ps_cl S (ps_rg S.n 0) h0) = 0 := by
  have hp := Nat.two_pow_pos S.n
  obtain ⟨h', i1, i2, i3, i4⟩ := ps_od_inv (S := S) (h0 := h0) S.n h0 (2 ^ S.n - 1) [] (ps_lc_le S _) (ps_le.rf _) (ps_cl_ge _) (fun e he hb => by rw [Nat.testBit_two_pow_sub_one, decide_eq_true he] at hb; exact absurd hb (by decide)) (by omega)
  rw [ps_dif0]
  constructor
  · intro hz x hx
    rcases ps_fold_bit.mp hx with h | ⟨e, h1, h2⟩
    · exact absurd h (by simp)
    · exact (i2 e (by have := ps_rg_mem.mp h1; omega) (by rw [hz, Nat.zero_testBit])).2 x h2
  · intro hle
    have hue : ∀ e, e < S.n → ps_le (ps_us S e) (ps_cl S (ps_rg S.n 0) h0) := fun e he x hx => hle x (ps_fold_bit.mpr (Or.inr ⟨e, ps_rg_mem.mpr (by omega), hx⟩))
    have hcld : ps_cld S (ps_rg S.n 0) h' := fun e he hu => by
      have hen : e < S.n := by have := ps_rg_mem.mp he; omega
      cases hb : (ps_od S S.n h0 (2 ^ S.n - 1) []).2.testBit e with
      | false => exact (i2 e hen hb).1
      | true =>
        have := i4 e hen
        rw [ps_rdy, hb, decide_eq_true (ps_dif0.mpr hu)] at this
        exact absurd this (by decide)
    have hcl := ps_cl_min i1 hcld
    apply Nat.eq_of_testBit_eq
    intro i
    rw [Nat.zero_testBit]
    rcases Nat.lt_or_ge i S.n with hi | hi
    · cases hb : (ps_od S S.n h0 (2 ^ S.n - 1) []).2.testBit i with
      | false => rfl
      | true =>
        have := i4 i hi
        rw [ps_rdy, hb, decide_eq_true (ps_dif0.mpr ((hue i hi).tr hcl))] at this
        exact absurd this (by decide)
    · exact Nat.testBit_lt_two_pow (Nat.lt_of_lt_of_le i3 (Nat.pow_le_pow_right (by omega) hi))
theorem ps_od_lt {h0 : Nat} : (ps_od S S.n h0 (2 ^ S.n - 1) []).2 < 2 ^ S.n := by
  have hp := Nat.two_pow_pos S.n
  obtain ⟨h', i1, i2, i3, i4⟩ := ps_od_inv (S := S) (h0 := h0) S.n h0 (2 ^ S.n - 1) [] (ps_lc_le S _) (ps_le.rf _) (ps_cl_ge _) (fun e he hb => by rw [Nat.testBit_two_pow_sub_one, decide_eq_true he] at hb; exact absurd hb (by decide)) (by omega)
  exact i3
theorem v1068_13 (d : Nat) (hW : ps_Wf S) : ∀ k s (b : Option Nat) (μ : am_Mem), ps_Rm 57 S μ → (∀ j, j < S.n → μ 66 j = nI (ps_us S j)) → s + k = 2 ^ S.w → (∀ X, b = some X → X < s) → ∃ μ', am_ev (am_call (d + 2)) 1068 13 [.ref 56, .int (nI S.kn), .int (ps_oi b), .int (nI s)] [] μ = am_ret (some (.int (ps_oi (ps_bf (ps_gd S (ps_rg S.n 0) S.kn (ps_nds S)) k s b)))) μ' ∧ ps_scM μ μ' := by
  have hw : S.w ≤ 16 := hW.1
  have n12 : S.n ≤ 12 := hW.2.2.2.2.2.2.1
  have p16 : 2 ^ S.w ≤ 2 ^ 16 := Nat.pow_le_pow_right (by omega) hw
  have p12 : 2 ^ S.n ≤ 2 ^ 12 := Nat.pow_le_pow_right (by omega) n12
  have hkn := ps_kn_lt hW
  intro k
  induction k with
  | zero =>
    intro s b μ hR h6 hs hb
    rw [q1068_13, show μ 57 0 = nI S.w from hR.1, show am_c 1 = nI 1 from rfl, am_shl1 (by omega), if_pos (by rw [am_leN (by omega) (by omega)]; omega), q1068_59]
    exact ⟨μ, rfl, ps_scM.rf μ⟩
  | succ k ih =>
    intro s b μ hR h6 hs hb
    have hb' : ∀ X, b = some X → X < 65536 := fun X hX => by have := hb X hX; omega
    have nx : ∀ (μ1 : am_Mem) (b1 : Option Nat), ps_scM μ μ1 → μ1 66 = μ 66 → b1 = (if ps_bt b s = true ∧ ps_gd S (ps_rg S.n 0) S.kn (ps_nds S) s = true then some s else b) → ∃ μ', am_ev (am_call (d + 2)) 1068 53 [.ref 56, .int (nI S.kn), .int (ps_oi b1), .int (nI s)] [] μ1 = am_ret (some (.int (ps_oi (ps_bf (ps_gd S (ps_rg S.n 0) S.kn (ps_nds S)) (k + 1) s b)))) μ' ∧ ps_scM μ μ' := by
      intro μ1 b1 h1 h2 h3
      obtain ⟨μ', a1, a2⟩ := ih (s + 1) b1 μ1 (h1.R hR) (fun j hj => by rw [h2]; exact h6 j hj) (by omega) (fun X hX => by
        rw [h3] at hX
        split at hX
        · cases hX; omega
        · have := hb X hX; omega)
      rw [q1068_53, am_cN, nI_add, a1, ps_bf, ← h3]
      exact ⟨μ', rfl, h1.tr a2⟩
    have try1 : ps_bt b s = true → ∃ μ', am_ev (am_call (d + 2)) 1068 41 [.ref 56, .int (nI S.kn), .int (ps_oi b), .int (nI s)] [] μ = am_ret (some (.int (ps_oi (ps_bf (ps_gd S (ps_rg S.n 0) S.kn (ps_nds S)) (k + 1) s b)))) μ' ∧ ps_scM μ μ' := by
      intro ht
      have hor : S.kn ||| s < 2 ^ 16 := Nat.or_lt_two_pow hkn (by omega)
      obtain ⟨μ1, a1, a2, a3, a4, a5⟩ := v1065 d hW hR h6 (h := S.kn ||| s) hor
      have s1 : ps_scM μ μ1 := ⟨fun K hK => a2 K (by omega) (by omega), fun i hi => a3 i (by omega)⟩
      have hl := ps_od_lt (S := S) (h0 := S.kn ||| s)
      rw [q1068_41, am_or, a1, am_bI_ret]
      by_cases hg : ps_dif (ps_nds S) (ps_cl S (ps_rg S.n 0) (S.kn ||| s)) = 0
      · rw [if_pos (by rw [am_eq0 (by omega)]; exact ps_od_zero.mpr hg)]
        exact nx μ1 (some s) s1 (a2 66 (by omega) (by omega)) (by rw [if_pos ⟨ht, decide_eq_true hg⟩])
      · rw [if_neg (by rw [am_eq0 (by omega)]; exact fun z => hg (ps_od_zero.mp z))]
        exact nx μ1 b s1 (a2 66 (by omega) (by omega)) (by rw [if_neg (fun z => hg (of_decide_eq_true z.2))])
    rw [q1068_13, show μ 57 0 = nI S.w from hR.1, show am_c 1 = nI 1 from rfl, am_shl1 (by omega), if_neg (by rw [am_leN (by omega) (by omega)]; omega)]
    cases hbb : b with
    | none =>
      rw [if_pos (show ps_oi none = am_c (-1) from rfl)]
      rw [hbb] at try1
      exact try1 rfl
    | some X =>
      have hX := hb' X hbb
      have pX : ps_pc X ≤ 16 := ps_cnt_le _ _
      have ps : ps_pc s ≤ 16 := ps_cnt_le _ _
      rw [show ps_oi (some X) = nI X from rfl, if_neg (nI_m1 (by omega)), m1007 (d + 1) (by omega), am_bI_ret, m1007 (d + 1) (by omega), am_bI_ret]
      rw [hbb] at try1 nx
      by_cases hc : ps_pc s < ps_pc X
      · rw [if_neg (by rw [am_leN (by omega) (by omega)]; omega)]
        exact try1 (decide_eq_true hc)
      · rw [if_pos (by rw [am_leN (by omega) (by omega)]; omega)]
        exact nx μ (some X) (ps_scM.rf μ) rfl (by rw [if_neg (fun z => hc (of_decide_eq_true z.1))])
end Ops26b
theorem M_least (d : Nat) (O : ps_O) (hO : ps_Ow O) : ps_sM (d + 6) 1063 [.ref 56] O (some (.int (ps_least O))) O := by
  intro μ h
  have hW := hO.1
  obtain ⟨μ1, a1, a2, a3⟩ := v1059 d hW hO.2.1 h.1 h.2.1
  have s1 : ps_scM μ μ1 := ps_scM.of a2 rfl
  obtain ⟨μ2, b1, b2⟩ := v1063_13 (d + 3) hW (2 ^ O.S.w) 0 none μ1 (s1.R h.1) a3 (by omega) (fun X hX => absurd hX (by simp))
  have sc := s1.tr b2
  rw [e1063, q1063_0, a1, am_bV_ret, v1062 (d + 3) (s1.R h.1) hW, am_bI_ret, show am_ev (am_call (d + 5)) 1063 13 [.ref 56, .int (nI (ps_mask O.S.hd O.S.n)), .int (am_c (-1)), .int (am_c 0)] [] μ1 = _ from b1]
  exact ⟨μ2, rfl, sc.I h, sc.k⟩
theorem M_cut (d : Nat) (O : ps_O) (hO : ps_Ow O) : ps_sM (d + 6) 1068 [.ref 56] O (some (.int (ps_cut O))) O := by
  intro μ h
  have hW := hO.1
  obtain ⟨μ1, a1, a2, a3⟩ := v1059 d hW hO.2.1 h.1 h.2.1
  have s1 : ps_scM μ μ1 := ps_scM.of a2 rfl
  obtain ⟨μ2, b1, b2⟩ := v1068_13 (d + 3) hW (2 ^ O.S.w) 0 none μ1 (s1.R h.1) (fun j hj => (a3 j hj).1) (by omega) (fun X hX => absurd hX (by simp))
  have sc := s1.tr b2
  rw [e1068, q1068_0, a1, am_bV_ret, v1064 (d + 4) hW (s1.R h.1), am_bI_ret, show am_ev (am_call (d + 5)) 1068 13 [.ref 56, .int (nI O.S.kn), .int (am_c (-1)), .int (am_c 0)] [] μ1 = _ from b1]
  exact ⟨μ2, rfl, sc.I h, sc.k⟩
