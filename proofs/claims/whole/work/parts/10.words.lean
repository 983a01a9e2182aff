/-! the words that every method has: those of the tables -/
def am_cn (c : Nat) : String := [RX0, RX1, RX2, RX3, RX4, RX5, RX6, RX7, RX8, RX9, RX10, RL, RJ6, RJ9, RJ0, RJ1, RJ3].getD c ""
def am_cq (ci : Nat) : vw_C := vwCl.getD ci ("", fun _ => ("", "", "", false), 0)
def am_T (ci k : Nat) : String × String × String × Bool := (am_cq ci).2.1 k
def am_yn (y : Nat) : MethodName := match am_fa am_MT y with
  | some q => q.1
  | none => match Nat.beq y 2001 with
    | true => yJ9_max_7cf53
    | false => arraycopyName
def am_wq (q : Nat × MethodName × ByteArray × Nat × Option FieldType × Nat × Bool) : List Cond := match q.2.2.2.2.2.2 with
  | true => [Cond.code q.2.1 q.2.2.1 q.2.2.2.1 q.2.2.2.2.1, .initialized q.2.1.cls, .static q.2.1]
  | false => [Cond.code q.2.1 q.2.2.1 q.2.2.2.1 q.2.2.2.2.1, .initialized q.2.1.cls, .instanceMethod q.2.1, .selects q.2.1.cls q.2.1 q.2.1]
def am_w1 : List Cond := am_MT.flatMap am_wq
def am_w2 : List Cond := am_FT.flatMap (fun c => c.2.map (fun q => Cond.fieldLink (am_cn c.1) q.1 (am_T q.2.1 q.2.2).1 (am_T q.2.1 q.2.2).2.1 (am_T q.2.1 q.2.2).2.2.1))
def am_w3 : List Cond := am_CT.flatMap (fun c => c.2.map (fun q => Cond.methodLink (am_cn c.1) q.1 (am_yn q.2.1)))
def am_w7 : List Cond := am_CS.flatMap (fun c => c.2.map (fun q => Cond.methodLink (am_cn c.1) q.1 (am_yn q.2.1)))
def am_w4 : List Cond := am_IT.flatMap (fun c => c.2.map (fun q => Cond.constant (am_cn c.1) q.1 q.2))
def am_w5 : List Cond := vwCl.flatMap (fun q => u_ws q.1 q.2.1 q.2.2)
def am_w6 : List Cond := [.native arraycopyName, .static arraycopyName, .initialized "java/lang/System", .fieldLink RJ0 38 "java/lang/String" "COMPACT_STRINGS" "Z", .fieldLink RJ0 1053 "jdk/internal/util/Preconditions" "SIOOBE_FORMATTER" "Ljava/util/function/BiFunction;", .fieldLink RJ0 9 "java/lang/String" "value" "[B", .fieldLink RJ0 15 "java/lang/String" "coder" "B", .code yJ9_max_7cf53 cJ9_max_7cf53 2 (some .int), .static yJ9_max_7cf53, .initialized RJ9]
def am_T0 : List Cond := am_w1 ++ (am_w2 ++ (am_w3 ++ (am_w4 ++ (am_w5 ++ (am_w6 ++ am_w7)))))
def am_nest : List Cond := am_NT.flatMap (fun c => c.2.map (fun q => Cond.fieldLinkNest (am_cn c.1) q.1 (am_T q.2.1 q.2.2).1 (am_T q.2.1 q.2.2).2.1 (am_T q.2.1 q.2.2).2.2.1 "NoWordTwice"))
def am_tx (i : Nat) : String := ["fix", "loose", "when", "or", "and", "not", "common", "lack", "more", "many", "others", "head", ""].getD i ""
