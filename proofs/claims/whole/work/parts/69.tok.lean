/-! the tape's bytes, letters, digits, words -/
def ps_isL (n : Nat) : Bool := (decide (97 ≤ n) && decide (n ≤ 122)) || (decide (65 ≤ n) && decide (n ≤ 90))
def ps_isD (n : Nat) : Bool := decide (48 ≤ n) && decide (n ≤ 57)
def ps_isB (n : Nat) : Bool := decide (n = 32) || decide (n = 10)
theorem ps_by_int : ∀ n, n < 256 → (ps_by n).toInt = if n < 128 then (n : Int) else (n : Int) - 256 := by decide +kernel
theorem ps_by_lt {n c : Nat} (hn : n < 256) (hc : c < 128) : (ps_by n < nI c) = (n < c ∨ 128 ≤ n) := by
  rw [Int32.lt_iff_toInt_lt, nI_toInt (by omega), ps_by_int n hn]
  apply propext
  split <;> omega
theorem ps_by_gt {n c : Nat} (hn : n < 256) (hc : c < 128) : (nI c < ps_by n) = (c < n ∧ n < 128) := by
  rw [Int32.lt_iff_toInt_lt, nI_toInt (by omega), ps_by_int n hn]
  apply propext
  split <;> omega
theorem ps_by_le {n c : Nat} (hn : n < 256) (hc : c < 128) : (ps_by n ≤ nI c) = (n ≤ c ∨ 128 ≤ n) := by
  rw [Int32.le_iff_toInt_le, nI_toInt (by omega), ps_by_int n hn]
  apply propext
  split <;> omega
theorem ps_by_eq {n c : Nat} (hn : n < 256) (hc : c < 128) : (ps_by n = nI c) = (n = c) := by
  rw [← Int32.toInt_inj, nI_toInt (by omega), ps_by_int n hn]
  apply propext
  split <;> omega
theorem w607 (d : Nat) {n : Nat} (hn : n < 256) (μ : am_Mem) : am_call (d + 1) 607 [.int (ps_by n)] μ = am_ret (some (.int (nI (ps_isB n).toNat))) μ := by
  rw [e607, q607_0, q607_12, q607_16, q607_17, q607_17, am_gbt0, am_gbt1, ps_isB]
  by_cases h1 : n = 32
  · rw [if_pos (by rw [show am_c 32 = nI 32 from rfl, ps_by_eq hn (by omega)]; exact h1), decide_eq_true h1]; rfl
  · rw [if_neg (by rw [show am_c 32 = nI 32 from rfl, ps_by_eq hn (by omega)]; exact h1), decide_eq_false h1]
    by_cases h2 : n = 10
    · rw [if_pos (by rw [show am_c 10 = nI 10 from rfl, ps_by_eq hn (by omega)]; exact h2), decide_eq_true h2]; rfl
    · rw [if_neg (by rw [show am_c 10 = nI 10 from rfl, ps_by_eq hn (by omega)]; exact h2), decide_eq_false h2]; rfl
theorem w609 (d : Nat) {n : Nat} (hn : n < 256) (μ : am_Mem) : am_call (d + 1) 609 [.int (ps_by n)] μ = am_ret (some (.int (nI (ps_isD n).toNat))) μ := by
  rw [e609, q609_0, q609_16, q609_17, q609_17, am_gbt0, am_gbt1, ps_isD]
  by_cases h1 : 48 ≤ n
  · by_cases h2 : n ≤ 57
    · rw [if_neg (by rw [show am_c 48 = nI 48 from rfl, ps_by_lt hn (by omega)]; omega), if_neg (by rw [show am_c 57 = nI 57 from rfl, ps_by_gt hn (by omega)]; omega), decide_eq_true h1, decide_eq_true h2]; rfl
    · rw [decide_eq_false h2, Bool.and_false]
      by_cases h3 : 128 ≤ n
      · rw [if_pos (by rw [show am_c 48 = nI 48 from rfl, ps_by_lt hn (by omega)]; omega)]; rfl
      · rw [if_neg (by rw [show am_c 48 = nI 48 from rfl, ps_by_lt hn (by omega)]; omega), if_pos (by rw [show am_c 57 = nI 57 from rfl, ps_by_gt hn (by omega)]; omega)]; rfl
  · rw [if_pos (by rw [show am_c 48 = nI 48 from rfl, ps_by_lt hn (by omega)]; omega), decide_eq_false h1]; rfl
theorem w608 (d : Nat) {n : Nat} (hn : n < 256) (μ : am_Mem) : am_call (d + 1) 608 [.int (ps_by n)] μ = am_ret (some (.int (nI (ps_isL n).toNat))) μ := by
  have up : am_ev (am_call d) 608 12 [.int (ps_by n)] [] μ = am_ret (some (.int (nI (decide (65 ≤ n) && decide (n ≤ 90)).toNat))) μ := by
    rw [q608_12, q608_24, q608_28, q608_29, q608_29, am_gbt0, am_gbt1]
    by_cases h1 : 65 ≤ n
    · by_cases h2 : n ≤ 90
      · rw [if_neg (by rw [show am_c 65 = nI 65 from rfl, ps_by_lt hn (by omega)]; omega), if_neg (by rw [show am_c 90 = nI 90 from rfl, ps_by_gt hn (by omega)]; omega), decide_eq_true h1, decide_eq_true h2]; rfl
      · rw [decide_eq_false h2, Bool.and_false]
        by_cases h3 : 128 ≤ n
        · rw [if_pos (by rw [show am_c 65 = nI 65 from rfl, ps_by_lt hn (by omega)]; omega)]; rfl
        · rw [if_neg (by rw [show am_c 65 = nI 65 from rfl, ps_by_lt hn (by omega)]; omega), if_pos (by rw [show am_c 90 = nI 90 from rfl, ps_by_gt hn (by omega)]; omega)]; rfl
    · rw [if_pos (by rw [show am_c 65 = nI 65 from rfl, ps_by_lt hn (by omega)]; omega), decide_eq_false h1]; rfl
  rw [e608, q608_0, up, q608_24, q608_29, am_gbt1, ps_isL]
  by_cases h1 : 97 ≤ n
  · by_cases h2 : n ≤ 122
    · rw [if_neg (by rw [show am_c 97 = nI 97 from rfl, ps_by_lt hn (by omega)]; omega), if_pos (by rw [show am_c 122 = nI 122 from rfl, ps_by_le hn (by omega)]; omega), decide_eq_true h1, decide_eq_true h2]; rfl
    · rw [decide_eq_false h2, Bool.and_false, Bool.false_or]
      by_cases h3 : 128 ≤ n
      · rw [if_pos (by rw [show am_c 97 = nI 97 from rfl, ps_by_lt hn (by omega)]; omega)]
      · rw [if_neg (by rw [show am_c 97 = nI 97 from rfl, ps_by_lt hn (by omega)]; omega), if_neg (by rw [show am_c 122 = nI 122 from rfl, ps_by_le hn (by omega)]; omega)]
  · rw [if_pos (by rw [show am_c 97 = nI 97 from rfl, ps_by_lt hn (by omega)]; omega), decide_eq_false h1, Bool.false_and, Bool.false_or]
theorem ps_u13 : ∀ x, x < 13 → (UInt32.ofNat x).toNat = x := by decide +kernel
theorem ps_sl6 : ∀ x, x < 13 → am_slen x ≤ 6 := by decide +kernel
theorem w1400 (d : Nat) {x : Nat} (hx : x < 13) (μ : am_Mem) : am_call (d + 2) 1400 [.retAddr x] μ = am_ret (some (.int (nI (am_slen x)))) μ := by
  have h6 := ps_sl6 x hx
  rw [e1400, q1400_0, am_gbI hx, ps_u13 x hx, am_gbI hx, am_gbI hx, e1402, q1402_0, if_neg (by decide), am_gbI hx, q1402_14, show (0 : Int32) = nI 0 from rfl, am_ixN (by omega), am_gbI (by omega), am_bI_ret, show Int32.ofNat (am_slen x) = nI (am_slen x) from rfl, am_shr (by omega) (by omega), Nat.pow_zero, Nat.div_one]
theorem ps_schk : ∀ x, x < 13 → ∀ j, j < am_slen x → (Int32.toUInt32 (am_sch x j &&& am_c 255) % 65536).toInt32 = am_sch x j ∧ am_ix (am_sch x j) < 128 := by decide +kernel
theorem w1401 (d : Nat) {x j : Nat} (hx : x < 13) (hj : j < am_slen x) (μ : am_Mem) : am_call (d + 4) 1401 [.retAddr x, .int (nI j)] μ = am_ret (some (.int (am_sch x j))) μ := by
  have h6 := ps_sl6 x hx
  obtain ⟨k1, k2⟩ := ps_schk x hx j hj
  rw [e1401, q1401_0, am_gbI hx, e1403, q1403_0, if_neg (by decide), am_gbI hx, if_pos rfl, q1403_18, am_gbt1, am_bI_ret, if_neg (by decide), am_gbI hx, e1500, q1500_0, ps_u13 x hx, am_gbI hx, e1404, q1404_0, e1600, q1600_0, if_neg (nI_pos (by omega)), show Int32.ofNat (am_slen x) = nI (am_slen x) from rfl, if_pos (by rw [am_ltN (by omega) (by omega)]; exact hj), q1600_16, am_bI_ret, am_bV_ret, am_gbI hx, am_ixN (by omega), am_gbI hj, k1, am_gbI k2, am_bI_ret, am_gbI k2]
/-- words as rows of bytes -/
def ps_kwl : List (List Nat) := [[102, 105, 120], [108, 111, 111, 115, 101], [119, 104, 101, 110], [111, 114], [97, 110, 100], [110, 111, 116], [99, 111, 109, 109, 111, 110], [108, 97, 99, 107], [109, 111, 114, 101], [109, 97, 110, 121], [111, 116, 104, 101, 114, 115], [104, 101, 97, 100]]
def ps_seg (tp : Nat → Nat) (i : Nat) : Nat → List Nat
  | 0 => []
  | k + 1 => tp i :: ps_seg tp (i + 1) k
theorem ps_seg_len (tp : Nat → Nat) : ∀ (i k : Nat), (ps_seg tp i k).length = k
  | _, 0 => rfl
  | i, k + 1 => by rw [ps_seg, List.length_cons, ps_seg_len tp (i + 1) k]
theorem ps_seg_get {tp : Nat → Nat} : ∀ {i k j : Nat}, j < k → (ps_seg tp i k)[j]? = some (tp (i + j))
  | i, 0, j, h => by omega
  | i, k + 1, 0, h => rfl
  | i, k + 1, j + 1, h => by
    rw [ps_seg, List.getElem?_cons_succ, ps_seg_get (by omega)]
    congr 2
    omega
theorem ps_kwlen : ∀ x, x < 12 → (ps_kwl.getD x []).length = am_slen x := by decide +kernel
theorem ps_kwch : ∀ x, x < 12 → ∀ j, j < am_slen x → am_sch x j = nI ((ps_kwl.getD x []).getD j 0) ∧ (ps_kwl.getD x []).getD j 0 < 128 := by decide +kernel
theorem ps_kwg {x j : Nat} (hx : x < 12) (hj : j < am_slen x) : (ps_kwl.getD x [])[j]? = some ((ps_kwl.getD x []).getD j 0) := by
  have hl : j < (ps_kwl.getD x []).length := by rw [ps_kwlen x hx]; exact hj
  generalize ps_kwl.getD x [] = L at *
  rw [List.getD_eq_getElem?_getD, List.getElem?_eq_getElem hl]
  rfl
theorem ps_seg_eq {tp : Nat → Nat} {i k x : Nat} (hx : x < 12) (hk : k = am_slen x) : ps_seg tp i k = ps_kwl.getD x [] ↔ ∀ j, j < am_slen x → tp (i + j) = (ps_kwl.getD x []).getD j 0 := by
  constructor
  · intro h j hj
    have h1 := ps_seg_get (tp := tp) (i := i) (k := k) (j := j) (by omega)
    rw [h, ps_kwg hx hj] at h1
    exact (Option.some.inj h1).symm
  · intro h
    apply List.ext_getElem?
    intro j
    rcases Nat.lt_or_ge j k with z | z
    · rw [ps_seg_get z, ps_kwg hx (by omega), h j (by omega)]
    · rw [List.getElem?_eq_none (by rw [ps_seg_len]; exact z), List.getElem?_eq_none (by rw [ps_kwlen x hx]; omega)]
theorem w606 (d : Nat) {x i to : Nat} {tp : Nat → Nat} {μ : am_Mem} {tl : Nat} (hx : x < 12) (hit : i ≤ to) (hto : to ≤ tl) (htl : tl ≤ 400) (hb : ∀ k, k < tl → tp k < 256 ∧ μ 25 k = ps_by (tp k)) : am_call (d + 5) 606 [.retAddr x, .ref 25, .int (nI i), .int (nI to)] μ = am_ret (some (.int (nI (decide (ps_seg tp i (to - i) = ps_kwl.getD x [])).toNat))) μ := by
  have h6 := ps_sl6 x (by omega)
  rw [e606, q606_0, am_gbI (by omega), w1400 (d + 2) (by omega), am_bI_ret, pk_sub hit]
  by_cases hl : am_slen x = to - i
  · have lp : ∀ m j, j + m = am_slen x → (∀ j', j' < j → tp (i + j') = (ps_kwl.getD x []).getD j' 0) → am_ev (am_call (d + 4)) 606 15 [.retAddr x, .ref 25, .int (nI i), .int (nI to), .int (nI j)] [] μ = am_ret (some (.int (nI (decide (ps_seg tp i (to - i) = ps_kwl.getD x [])).toNat))) μ := by
      intro m
      induction m with
      | zero =>
        intro j hj hd
        have hj : j = am_slen x := hj
        subst hj
        rw [q606_15, am_gbI (by omega), w1400 (d + 2) (by omega), am_bI_ret, if_pos (by rw [am_leN (by omega) (by omega)]; omega), q606_47, decide_eq_true ((ps_seg_eq hx hl.symm).mpr hd)]
        rfl
      | succ m ih =>
        intro j hj hd
        obtain ⟨c1, c2⟩ := ps_kwch x hx j (by omega)
        obtain ⟨b1, b2⟩ := hb (i + j) (by omega)
        rw [q606_15, am_gbI (by omega), w1400 (d + 2) (by omega), am_bI_ret, if_neg (by rw [am_leN (by omega) (by omega)]; omega), am_gbI (by omega), w1401 d (by omega) (by omega), am_bI_ret, nI_add, am_ixN (by omega), am_gbI (by omega), b2, c1]
        by_cases he : tp (i + j) = (ps_kwl.getD x []).getD j 0
        · rw [if_pos (Eq.symm (by rw [ps_by_eq b1 c2]; exact he)), q606_41, am_cN, nI_add]
          exact ih (j + 1) (by omega) (fun j' hj' => by
            by_cases e : j' = j
            · rw [e]; exact he
            · exact hd j' (by omega))
        · rw [if_neg (fun z => he (by rw [← ps_by_eq b1 c2]; exact z.symm)), decide_eq_false (fun z => he ((ps_seg_eq hx hl.symm).mp z j (by omega)))]
          rfl
    rw [if_pos (by rw [hl]), q606_12]
    exact lp (am_slen x) 0 (by omega) (fun j' hj' => by omega)
  · rw [if_neg (by rw [am_eqN (by omega) (by omega)]; exact hl), decide_eq_false (fun z => hl (by
      have := congrArg List.length z
      rw [ps_seg_len, ps_kwlen x hx] at this
      exact this.symm))]
    rfl
/-- the kind of a word -/
def ps_kwf (seg : List Nat) : Nat → Nat → Nat
  | 0, _ => 1
  | m + 1, x => if seg = ps_kwl.getD x [] then x + 3 else ps_kwf seg m (x + 1)
def ps_kwk (seg : List Nat) : Nat := ps_kwf seg 12 0
theorem w610 (d : Nat) {x : Nat} (hx : x < 12) (μ : am_Mem) : am_call (d + 1) 610 [.int (nI (x + 3))] μ = am_ret (some (.retAddr x)) μ := by
  rw [e610, q610_0]
  rcases (show x = 0 ∨ x = 1 ∨ x = 2 ∨ x = 3 ∨ x = 4 ∨ x = 5 ∨ x = 6 ∨ x = 7 ∨ x = 8 ∨ x = 9 ∨ x = 10 ∨ x = 11 by omega) with rfl | rfl | rfl | rfl | rfl | rfl | rfl | rfl | rfl | rfl | rfl | rfl
  · rw [if_pos (by decide), q610_64]
  · rw [if_neg (by decide), if_pos (by decide), q610_67]
  · rw [if_neg (by decide), if_neg (by decide), if_pos (by decide), q610_70]
  · rw [if_neg (by decide), if_neg (by decide), if_neg (by decide), if_pos (by decide), q610_73]
  · rw [if_neg (by decide), if_neg (by decide), if_neg (by decide), if_neg (by decide), if_pos (by decide), q610_76]
  · rw [if_neg (by decide), if_neg (by decide), if_neg (by decide), if_neg (by decide), if_neg (by decide), if_pos (by decide), q610_79]
  · rw [if_neg (by decide), if_neg (by decide), if_neg (by decide), if_neg (by decide), if_neg (by decide), if_neg (by decide), if_pos (by decide), q610_82]
  · rw [if_neg (by decide), if_neg (by decide), if_neg (by decide), if_neg (by decide), if_neg (by decide), if_neg (by decide), if_neg (by decide), if_pos (by decide), q610_85]
  · rw [if_neg (by decide), if_neg (by decide), if_neg (by decide), if_neg (by decide), if_neg (by decide), if_neg (by decide), if_neg (by decide), if_neg (by decide), if_pos (by decide), q610_88]
  · rw [if_neg (by decide), if_neg (by decide), if_neg (by decide), if_neg (by decide), if_neg (by decide), if_neg (by decide), if_neg (by decide), if_neg (by decide), if_neg (by decide), if_pos (by decide), q610_91]
  · rw [if_neg (by decide), if_neg (by decide), if_neg (by decide), if_neg (by decide), if_neg (by decide), if_neg (by decide), if_neg (by decide), if_neg (by decide), if_neg (by decide), if_neg (by decide), if_pos (by decide), q610_94]
  · rw [if_neg (by decide), if_neg (by decide), if_neg (by decide), if_neg (by decide), if_neg (by decide), if_neg (by decide), if_neg (by decide), if_neg (by decide), if_neg (by decide), if_neg (by decide), if_neg (by decide), if_pos (by decide), q610_97]
/-- the kind of a sign -/
def ps_sgk (n : Nat) : Nat := if n = 59 then 15 else if n = 43 then 16 else if n = 45 then 17 else if n = 42 then 18 else if n = 47 then 19 else if n = 40 then 20 else if n = 41 then 21 else if n = 60 then 22 else if n = 61 then 23 else if n = 62 then 24 else 1
