/-! The abstract machine: a method's blocks over a memory of ints (cell, place), its calls by a relation. -/
abbrev am_V : Type := List Value
abbrev am_Mem : Type := Nat → Nat → Int32
abbrev am_R : Type := am_Mem → Option Value → Prop
abbrev am_Kt : Type := Nat → am_V → am_V → am_Mem → am_R
abbrev am_Ct : Type := Nat → am_V → am_Mem → am_R
def am_no : am_R := fun _ _ => False
def am_ret (v : Option Value) (μ : am_Mem) : am_R := fun μ' r => r = v ∧ μ' = μ
def am_gb (b : Bool) (R : am_R) : am_R := match b with
  | true => R
  | false => am_no
def am_bI (R : am_R) (k : Int32 → am_Mem → am_R) : am_R := fun μ' r => ∃ x μ1, R μ1 (some (.int x)) ∧ k x μ1 μ' r
def am_bS (R : am_R) (k : Nat → am_Mem → am_R) : am_R := fun μ' r => ∃ i μ1, R μ1 (some (.retAddr i)) ∧ k i μ1 μ' r
def am_bV (R : am_R) (k : am_Mem → am_R) : am_R := fun μ' r => ∃ μ1, R μ1 none ∧ k μ1 μ' r
def am_up (μ : am_Mem) (K i : Nat) (x : Int32) : am_Mem := fun K' => if K' = K then (fun j => if j = i then x else μ K j) else μ K'
def am_cp (μ : am_Mem) (K0 K1 sp dp n : Nat) : am_Mem := fun K => if K = K1 then va_cpy (μ K0) (μ K1) sp dp n else μ K
def am_ix (i : Int32) : Nat := i.toUInt32.toNat
def am_len : List Nat := [3, 5, 4, 2, 3, 3, 6, 4, 4, 4, 6, 4, 0]
def am_byt : List (List Int32) := [[102, 105, 120], [108, 111, 111, 115, 101], [119, 104, 101, 110], [111, 114], [97, 110, 100], [110, 111, 116], [99, 111, 109, 109, 111, 110], [108, 97, 99, 107], [109, 111, 114, 101], [109, 97, 110, 121], [111, 116, 104, 101, 114, 115], [104, 101, 97, 100], []]
def am_slen (i : Nat) : Nat := am_len.getD i 0
def am_sch (i j : Nat) : Int32 := (am_byt.getD i []).getD j 0
def am_ldI : am_V → Nat → (Int32 → am_R) → am_R
  | v :: _, 0, k => match v with
    | .int x => k x
    | _ => am_no
  | _ :: l, n + 1, k => am_ldI l n k
  | [], _, _ => am_no
def am_isA (v : Value) (R : am_R) : am_R := match v with
  | .ref _ => R
  | .retAddr _ => R
  | .float _ => R
  | _ => am_no
def am_ldA : am_V → Nat → (Value → am_R) → am_R
  | v :: _, 0, k => am_isA v (k v)
  | _ :: l, n + 1, k => am_ldA l n k
  | [], _, _ => am_no
def am_sto : am_V → Nat → Value → (am_V → am_R) → am_R
  | _ :: l, 0, v, k => k (v :: l)
  | a :: l, n + 1, v, k => am_sto l n v (fun l' => k (a :: l'))
  | [], _, _, _ => am_no
def am_lkE {α : Type} : List (Nat × α) → Nat → (α → am_R) → am_R → am_R
  | [], _, _, e => e
  | q :: l, j, k, e => match Nat.beq q.1 j with
    | true => k q.2
    | false => am_lkE l j k e
def am_lk2 {α : Type} (t : List (Nat × List (Nat × α))) (c i : Nat) (k : α → am_R) (e : am_R) : am_R := am_lkE t c (fun l => am_lkE l i k e) e
def am_fl (own idx : Nat) (k : Nat × Nat → am_R) : am_R := am_lk2 am_FT own idx k (am_lk2 am_NT own idx k am_no)
def am_cell (K : Nat) (kO : Nat → List Nat → am_R) (kA : Nat → Nat → am_R) : am_R := match am_L[K]? with
  | some (.inl q) => kO q.1 q.2
  | some (.inr q) => kA q.1 q.2
  | none => am_no
def am_obj (K ci : Nat) (k : List Nat → am_R) : am_R := am_cell K (fun c fs => am_gb (Nat.beq c ci) (k fs)) (fun _ _ => am_no)
def am_getf (own idx : Nat) (v : Value) (μ : am_Mem) (k : Value → am_R) : am_R := match v with
  | .ref K => am_fl own idx (fun q => am_obj K q.1 (fun fs => match fs[q.2]? with
    | some 0 => k (.int (μ K q.2))
    | some 1 => k (.int (μ K q.2))
    | some (j + 2) => k (.ref j)
    | none => am_no))
  | .retAddr i => am_gb (Nat.blt i 13) (am_gb (Nat.beq own 14) (match Nat.beq idx 9 with
    | true => k (.float (UInt32.ofNat i))
    | false => match Nat.beq idx 15 with
      | true => k (.int 0)
      | false => am_no))
  | _ => am_no
def am_putf (own idx : Nat) (K : Nat) (x : Int32) (μ : am_Mem) (k : am_Mem → am_R) : am_R := am_fl own idx (fun q => am_obj K q.1 (fun fs => match fs[q.2]? with
    | some 0 => k (am_up μ K q.2 x)
    | some 1 => am_gb (Nat.blt (am_ix x) 2) (k (am_up μ K q.2 x))
    | _ => am_no))
def am_arr (K t : Nat) (k : Nat → am_R) : am_R := am_cell K (fun _ _ => am_no) (fun u n => am_gb (Nat.beq u t) (k n))
def am_iald (v : Value) (i : Int32) (μ : am_Mem) (k : Int32 → am_R) : am_R := match v with
  | .ref K => match Nat.beq K 999 with
    | true => am_gb (Nat.blt (am_ix i) (am_ix (μ 998 0))) (k (μ 999 (am_ix i)))
    | false => am_arr K 0 (fun n => am_gb (Nat.blt (am_ix i) n) (k (μ K (am_ix i))))
  | _ => am_no
def am_bald (v : Value) (i : Int32) (μ : am_Mem) (k : Int32 → am_R) : am_R := match v with
  | .ref K => am_cell K (fun _ _ => am_no) (fun u n => am_gb (Nat.blt 0 u) (am_gb (Nat.blt u 3) (am_gb (Nat.blt (am_ix i) n) (k (μ K (am_ix i))))))
  | .float u => am_gb (Nat.blt u.toNat 13) (am_gb (Nat.blt (am_ix i) (am_slen u.toNat)) (k (am_sch u.toNat (am_ix i))))
  | _ => am_no
def am_nar (u : Nat) (x : Int32) : Int32 := match u with
  | 1 => x.toInt8.toInt32
  | _ => x &&& 1
def am_bast (K : Nat) (i x : Int32) (μ : am_Mem) (k : am_Mem → am_R) : am_R := am_cell K (fun _ _ => am_no) (fun u n => am_gb (Nat.blt 0 u) (am_gb (Nat.blt u 3) (am_gb (Nat.blt (am_ix i) n) (k (am_up μ K (am_ix i) (am_nar u x))))))
def am_alen (v : Value) (μ : am_Mem) (k : Int32 → am_R) : am_R := match v with
  | .ref K => match Nat.beq K 999 with
    | true => k (μ 998 0)
    | false => am_cell K (fun _ _ => am_no) (fun _ n => k (Int32.ofNat n))
  | .float u => am_gb (Nat.blt u.toNat 13) (k (Int32.ofNat (am_slen u.toNat)))
  | _ => am_no
def am_p1 (st : am_V) (k : Int32 → am_V → am_R) : am_R := match st with
  | v :: st => match v with
    | .int x => k x st
    | _ => am_no
  | [] => am_no
def am_bA (st : am_V) (k : Value → am_V → am_R) : am_R := match st with
  | v :: st => k v st
  | [] => am_no
def am_bF (st : am_V) (k : Nat → am_V → am_R) : am_R := match st with
  | v :: st => match v with
    | .ref K => k K st
    | _ => am_no
  | [] => am_no
def am_p2 (st : am_V) (k : Int32 → Int32 → am_V → am_R) : am_R := am_p1 st (fun y st => am_p1 st (fun x st => k x y st))
def am_is1 (v : Value) (R : am_R) : am_R := match v with
  | .int _ => R
  | .ref _ => R
  | _ => am_no
def am_to (pc : Nat) (off : Int) : Nat := ((pc : Int) + off).toNat
def am_pop : Nat → am_V → am_V → (am_V → am_V → am_R) → am_R
  | 0, st, acc, k => k acc st
  | n + 1, v :: st, acc, k => am_pop n st (v :: acc) k
  | _ + 1, [], _, _ => am_no
def am_rc (y : Nat) (a : am_V) (R : am_R) : am_R := match a with
  | v :: _ => match v with
    | .ref K => am_obj K (y / 100) (fun _ => R)
    | .retAddr i => am_gb (Nat.blt i 13) (am_gb (Nat.beq (y / 100) 14) R)
    | _ => am_no
  | [] => am_no
def am_back (kd : Nat) (R : am_R) (st : am_V) (k : am_V → am_Mem → am_R) : am_R := match kd with
  | 0 => am_bV R (fun μ => k st μ)
  | 1 => am_bI R (fun x μ => k (.int x :: st) μ)
  | _ => am_bS R (fun i μ => k (.retAddr i :: st) μ)
def am_inv (C : am_Ct) (own idx : Nat) (stc : Bool) (st : am_V) (μ : am_Mem) (k : am_V → am_Mem → am_R) : am_R :=
  am_lk2 (match stc with
  | true => am_CS
  | false => am_CT) own idx (fun q => am_pop q.2.1 st [] (fun a st' => am_gb (Nat.ble st'.length 8) (match stc with
    | true => am_back q.2.2 (C q.1 a μ) st' k
    | false => am_rc q.1 a (am_back q.2.2 (C q.1 a μ) st' k)))) am_no
/-- a constant of the code -/
def am_c (n : Int) : Int32 := match n with
  | .ofNat k => @OfNat.ofNat Int32 k Int32.instOfNat
  | .negSucc k => -(@OfNat.ofNat Int32 (k + 1) Int32.instOfNat)
def am_sw (E : Nat → am_R) (pc : Nat) (x : Int32) (d : Int) : Int → List Int → am_R
  | _, [] => E (am_to pc d)
  | lo, o :: os => if x = am_c lo then E (am_to pc o) else am_sw E pc x d (lo + 1) os
def am_lsw (E : Nat → am_R) (pc : Nat) (x : Int32) (d : Int) : List (Int × Int) → am_R
  | [] => E (am_to pc d)
  | q :: os => if x = am_c q.1 then E (am_to pc q.2) else am_lsw E pc x d os
/-- an answer of a small type stands in its bounds -/
def am_ir (z : Nat) (x : Int32) (R : am_R) : am_R := match z with
  | 0 => R
  | n + 1 => am_gb (Nat.blt (am_ix x) (n + 1)) R
def am_i (C : am_Ct) (own z : Nat) (E : am_Kt) (i : Instr) (pc : Nat) (ls st : am_V) (μ : am_Mem) (κ : am_V → am_V → am_Mem → am_R) : am_R :=
  match i with
  | .iconst n => κ ls (.int (am_c n) :: st) μ
  | .bipush n => κ ls (.int (am_c n) :: st) μ
  | .sipush n => κ ls (.int (am_c n) :: st) μ
  | .ldc k => am_lk2 am_IT own k (fun v => κ ls (.int v :: st) μ) (am_lk2 am_ST own k (fun i => κ ls (.retAddr i :: st) μ) am_no)
  | .ldc_w k => am_lk2 am_IT own k (fun v => κ ls (.int v :: st) μ) am_no
  | .iload_n k => am_ldI ls k.val (fun x => κ ls (.int x :: st) μ)
  | .iload k => am_ldI ls k (fun x => κ ls (.int x :: st) μ)
  | .aload_n k => am_ldA ls k.val (fun v => κ ls (v :: st) μ)
  | .istore_n k => am_p1 st (fun x st => am_sto ls k.val (.int x) (fun ls => κ ls st μ))
  | .istore k => am_p1 st (fun x st => am_sto ls k (.int x) (fun ls => κ ls st μ))
  | .iinc k n => am_ldI ls k (fun x => am_sto ls k (.int (x + am_c n)) (fun ls => κ ls st μ))
  | .getfield k => am_bA st (fun v st => am_getf own k v μ (fun w => κ ls (w :: st) μ))
  | .putfield k => am_p1 st (fun x st => am_bF st (fun K st => am_putf own k K x μ (fun μ => κ ls st μ)))
  | .getstatic k => am_gb (Nat.beq own 14) (match Nat.beq k 38 with
    | true => κ ls (.int 1 :: st) μ
    | false => match Nat.beq k 1053 with
      | true => κ ls (.long 0 :: st) μ
      | false => am_no)
  | .iaload => am_p1 st (fun i st => am_bA st (fun v st => am_iald v i μ (fun x => κ ls (.int x :: st) μ)))
  | .baload => am_p1 st (fun i st => am_bA st (fun v st => am_bald v i μ (fun x => κ ls (.int x :: st) μ)))
  | .iastore => am_p2 st (fun i x st => am_bF st (fun K st => am_arr K 0 (fun n => am_gb (Nat.blt (am_ix i) n) (κ ls st (am_up μ K (am_ix i) x)))))
  | .bastore => am_p2 st (fun i x st => am_bF st (fun K st => am_bast K i x μ (fun μ => κ ls st μ)))
  | .arraylength => am_bA st (fun v st => am_alen v μ (fun x => κ ls (.int x :: st) μ))
  | .iadd => am_p2 st (fun x y st => κ ls (.int (x + y) :: st) μ)
  | .isub => am_p2 st (fun x y st => κ ls (.int (x - y) :: st) μ)
  | .imul => am_p2 st (fun x y st => κ ls (.int (x * y) :: st) μ)
  | .idiv => am_p2 st (fun x y st => am_gb (!(Nat.beq (am_ix y) 0)) (κ ls (.int (x / y) :: st) μ))
  | .irem => am_p2 st (fun x y st => am_gb (!(Nat.beq (am_ix y) 0)) (κ ls (.int (x - x / y * y) :: st) μ))
  | .iand => am_p2 st (fun x y st => κ ls (.int (x &&& y) :: st) μ)
  | .ior => am_p2 st (fun x y st => κ ls (.int (x ||| y) :: st) μ)
  | .ixor => am_p2 st (fun x y st => κ ls (.int (x ^^^ y) :: st) μ)
  | .ishl => am_p2 st (fun x y st => κ ls (.int (x <<< (y &&& 31)) :: st) μ)
  | .ishr => am_p2 st (fun x y st => κ ls (.int (x >>> (y &&& 31)) :: st) μ)
  | .iushr => am_p2 st (fun x y st => κ ls (.int ((x.toUInt32 >>> (y.toUInt32 &&& Int32.toUInt32 31)).toInt32) :: st) μ)
  | .i2b => am_p1 st (fun x st => κ ls (.int (x.toInt8.toInt32) :: st) μ)
  | .i2c => am_p1 st (fun x st => κ ls (.int ((x.toUInt32 % 65536).toInt32) :: st) μ)
  | .dup => am_bA st (fun v st => am_is1 v (κ ls (v :: v :: st) μ))
  | .dup2 => am_bA st (fun v st => am_bA st (fun w st => am_is1 v (am_is1 w (κ ls (v :: w :: v :: w :: st) μ))))
  | .pop => am_bA st (fun v st => am_is1 v (κ ls st μ))
  | .goto off => E (am_to pc off) ls st μ
  | .ifCond .eq off => am_p1 st (fun x st => if x = 0 then E (am_to pc off) ls st μ else κ ls st μ)
  | .ifCond .ne off => am_p1 st (fun x st => if x = 0 then κ ls st μ else E (am_to pc off) ls st μ)
  | .ifCond .lt off => am_p1 st (fun x st => if x < 0 then E (am_to pc off) ls st μ else κ ls st μ)
  | .ifCond .ge off => am_p1 st (fun x st => if 0 ≤ x then E (am_to pc off) ls st μ else κ ls st μ)
  | .ifCond .gt off => am_p1 st (fun x st => if 0 < x then E (am_to pc off) ls st μ else κ ls st μ)
  | .ifCond .le off => am_p1 st (fun x st => if x ≤ 0 then E (am_to pc off) ls st μ else κ ls st μ)
  | .if_icmp .eq off => am_p2 st (fun x y st => if x = y then E (am_to pc off) ls st μ else κ ls st μ)
  | .if_icmp .ne off => am_p2 st (fun x y st => if x = y then κ ls st μ else E (am_to pc off) ls st μ)
  | .if_icmp .lt off => am_p2 st (fun x y st => if x < y then E (am_to pc off) ls st μ else κ ls st μ)
  | .if_icmp .ge off => am_p2 st (fun x y st => if y ≤ x then E (am_to pc off) ls st μ else κ ls st μ)
  | .if_icmp .gt off => am_p2 st (fun x y st => if y < x then E (am_to pc off) ls st μ else κ ls st μ)
  | .if_icmp .le off => am_p2 st (fun x y st => if x ≤ y then E (am_to pc off) ls st μ else κ ls st μ)
  | .tableswitch d lo _ offs => am_p1 st (fun x st => am_sw (fun t => E t ls st μ) pc x d lo offs.toList)
  | .lookupswitch d ps => am_p1 st (fun x st => am_lsw (fun t => E t ls st μ) pc x d ps.toList)
  | .invokevirtual k => am_inv C own k false st μ (fun st μ => κ ls st μ)
  | .invokestatic k => am_inv C own k true st μ (fun st μ => κ ls st μ)
  | .ireturn => am_p1 st (fun x st => match st with
    | [] => am_ir z x (am_ret (some (.int x)) μ)
    | _ => am_no)
  | .areturn => am_bA st (fun v st => match st with
    | [] => am_isA v (am_ret (some v) μ)
    | _ => am_no)
  | .return_ => match st with
    | [] => am_ret none μ
    | _ => am_no
  | _ => am_no
def am_x (C : am_Ct) (own z : Nat) (E : am_Kt) : List (Instr × Nat) → Nat → am_V → am_V → am_Mem → am_R
  | [], pc, ls, st, μ => E pc ls st μ
  | q :: rest, pc, ls, st, μ => am_i C own z E q.1 pc ls st μ (fun ls st μ => am_x C own z E rest (pc + q.2) ls st μ)
