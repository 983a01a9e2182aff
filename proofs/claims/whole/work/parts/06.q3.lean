/-! NoWordTwice.state(I)I  -/
set_option maxRecDepth 50000 in
theorem q901_0 (C : am_Ct) (x1 : Int32) (x2 : Value) (μ : am_Mem) : am_ev C 901 0 [.ref 0, .int x1, x2] [] μ = (am_bV (C 401 [.ref 37] (am_up μ 1 0 x1)) (fun m1 => am_ret (some (.int (μ 1 0))) m1)) := am_blk (b := [(.aload_n 0, 1), (.getfield 10, 3), (.getfield 73, 3), (.istore_n 2, 1), (.aload_n 0, 1), (.getfield 10, 3), (.iload_n 1, 1), (.putfield 73, 3), (.aload_n 0, 1), (.getfield 41, 3), (.invokevirtual 76, 3), (.iload_n 2, 1), (.ireturn, 1)]) rfl rfl (rfl : am_z 901 = 0) _ _ _
theorem e901 (d : Nat) (x1 : Int32) (μ : am_Mem) : am_call (d + 1) 901 [.ref 0, .int x1] μ = am_ev (am_call d) 901 0 [.ref 0, .int x1, .null] [] μ := rfl
/-! NoWordTwice.word(I)I  -/
set_option maxRecDepth 50000 in
theorem q902_0 (C : am_Ct) (x1 : Int32) (x2 : Value) (μ : am_Mem) : am_ev C 902 0 [.ref 0, .int x1, x2] [] μ = (if (am_c 16) ≤ (μ 1 4) then am_ev C 902 19 [.ref 0, .int x1, x2] [] μ else am_bI (C 928 [.int x1] μ) (fun r1 m1 => if r1 = 0 then am_ev C 902 19 [.ref 0, .int x1, x2] [] m1 else am_ev C 902 21 [.ref 0, .int x1, x2] [] m1)) := am_blk (b := [(.aload_n 0, 1), (.getfield 10, 3), (.getfield 79, 3), (.bipush 16, 2), (.if_icmp .ge 10, 3), (.iload_n 1, 1), (.invokestatic 82, 3), (.ifCond .ne 5, 3)]) rfl rfl (rfl : am_z 902 = 0) _ _ _
set_option maxRecDepth 50000 in
theorem q902_19 (C : am_Ct) (x1 : Int32) (x2 : Value) (μ : am_Mem) : am_ev C 902 19 [.ref 0, .int x1, x2] [] μ = (am_ret (some (.int (am_c (-1)))) μ) := am_blk (b := [(.iconst (-1), 1), (.ireturn, 1)]) rfl rfl (rfl : am_z 902 = 0) _ _ _
set_option maxRecDepth 50000 in
theorem q902_21 (C : am_Ct) (x1 : Int32) (x2 : Value) (μ : am_Mem) : am_ev C 902 21 [.ref 0, .int x1, x2] [] μ = (am_gb (Nat.blt (am_ix (μ 1 4)) 16) (am_bV (C 401 [.ref 37] (am_up (am_up μ 2 (am_ix (μ 1 4)) x1) 1 4 ((μ 1 4) + (am_c 1)))) (fun m1 => am_ret (some (.int (μ 1 4))) m1))) := am_blk (b := [(.aload_n 0, 1), (.getfield 10, 3), (.getfield 79, 3), (.istore_n 2, 1), (.aload_n 0, 1), (.getfield 10, 3), (.getfield 86, 3), (.iload_n 2, 1), (.iload_n 1, 1), (.iastore, 1), (.aload_n 0, 1), (.getfield 10, 3), (.iload_n 2, 1), (.iconst 1, 1), (.iadd, 1), (.putfield 79, 3), (.aload_n 0, 1), (.getfield 41, 3), (.invokevirtual 76, 3), (.iload_n 2, 1), (.ireturn, 1)]) rfl rfl (rfl : am_z 902 = 0) _ _ _
theorem e902 (d : Nat) (x1 : Int32) (μ : am_Mem) : am_call (d + 1) 902 [.ref 0, .int x1] μ = am_ev (am_call d) 902 0 [.ref 0, .int x1, .null] [] μ := rfl
/-! NoWordTwice.set(III)Z  -/
set_option maxRecDepth 50000 in
theorem q903_0 (C : am_Ct) (x1 : Int32) (x2 : Int32) (x3 : Int32) (x4 : Value) (μ : am_Mem) : am_ev C 903 0 [.ref 0, .int x1, .int x2, .int x3, x4] [] μ = (if x1 = (am_c 0) then am_ev C 903 32 [.ref 0, .int x1, .int x2, .int x3, x4] [] μ else if x1 = (am_c 1) then am_ev C 903 42 [.ref 0, .int x1, .int x2, .int x3, x4] [] μ else if x1 = (am_c 2) then am_ev C 903 52 [.ref 0, .int x1, .int x2, .int x3, x4] [] μ else if x1 = (am_c 3) then am_ev C 903 63 [.ref 0, .int x1, .int x2, .int x3, x4] [] μ else am_ev C 903 74 [.ref 0, .int x1, .int x2, .int x3, x4] [] μ) := am_blk (b := [(.iload_n 1, 1), (.tableswitch 73 0 3 #[31, 41, 51, 62], 31)]) rfl rfl (rfl : am_z 903 = 2) _ _ _
set_option maxRecDepth 50000 in
theorem q903_32 (C : am_Ct) (x1 : Int32) (x2 : Int32) (x3 : Int32) (x4 : Value) (μ : am_Mem) : am_ev C 903 32 [.ref 0, .int x1, .int x2, .int x3, x4] [] μ = (am_bI (C 929 [.ref 0, .int x3] μ) (fun r1 m1 => am_ev C 903 77 [.ref 0, .int x1, .int x2, .int x3, .int r1] [] m1)) := am_blk (b := [(.aload_n 0, 1), (.iload_n 3, 1), (.invokevirtual 90, 3), (.istore 4, 2), (.goto 38, 3)]) rfl rfl (rfl : am_z 903 = 2) _ _ _
set_option maxRecDepth 50000 in
theorem q903_42 (C : am_Ct) (x1 : Int32) (x2 : Int32) (x3 : Int32) (x4 : Value) (μ : am_Mem) : am_ev C 903 42 [.ref 0, .int x1, .int x2, .int x3, x4] [] μ = (am_bI (C 930 [.ref 0, .int x3] μ) (fun r1 m1 => am_ev C 903 77 [.ref 0, .int x1, .int x2, .int x3, .int r1] [] m1)) := am_blk (b := [(.aload_n 0, 1), (.iload_n 3, 1), (.invokevirtual 93, 3), (.istore 4, 2), (.goto 28, 3)]) rfl rfl (rfl : am_z 903 = 2) _ _ _
set_option maxRecDepth 50000 in
theorem q903_52 (C : am_Ct) (x1 : Int32) (x2 : Int32) (x3 : Int32) (x4 : Value) (μ : am_Mem) : am_ev C 903 52 [.ref 0, .int x1, .int x2, .int x3, x4] [] μ = (am_bI (C 931 [.ref 0, .int x2, .int x3] μ) (fun r1 m1 => am_ev C 903 77 [.ref 0, .int x1, .int x2, .int x3, .int r1] [] m1)) := am_blk (b := [(.aload_n 0, 1), (.iload_n 2, 1), (.iload_n 3, 1), (.invokevirtual 96, 3), (.istore 4, 2), (.goto 17, 3)]) rfl rfl (rfl : am_z 903 = 2) _ _ _
set_option maxRecDepth 50000 in
theorem q903_63 (C : am_Ct) (x1 : Int32) (x2 : Int32) (x3 : Int32) (x4 : Value) (μ : am_Mem) : am_ev C 903 63 [.ref 0, .int x1, .int x2, .int x3, x4] [] μ = (am_bI (C 932 [.ref 0, .int x2, .int x3] μ) (fun r1 m1 => am_ev C 903 77 [.ref 0, .int x1, .int x2, .int x3, .int r1] [] m1)) := am_blk (b := [(.aload_n 0, 1), (.iload_n 2, 1), (.iload_n 3, 1), (.invokevirtual 100, 3), (.istore 4, 2), (.goto 6, 3)]) rfl rfl (rfl : am_z 903 = 2) _ _ _
set_option maxRecDepth 50000 in
theorem q903_74 (C : am_Ct) (x1 : Int32) (x2 : Int32) (x3 : Int32) (x4 : Value) (μ : am_Mem) : am_ev C 903 74 [.ref 0, .int x1, .int x2, .int x3, x4] [] μ = (am_ev C 903 77 [.ref 0, .int x1, .int x2, .int x3, .int (am_c 0)] [] μ) := am_blk (b := [(.iconst 0, 1), (.istore 4, 2)]) rfl rfl (rfl : am_z 903 = 2) _ _ _
set_option maxRecDepth 50000 in
theorem q903_77 (C : am_Ct) (x1 : Int32) (x2 : Int32) (x3 : Int32) (x4 : Int32) (μ : am_Mem) : am_ev C 903 77 [.ref 0, .int x1, .int x2, .int x3, .int x4] [] μ = (if x4 = 0 then am_ev C 903 89 [.ref 0, .int x1, .int x2, .int x3, .int x4] [] μ else am_bV (C 401 [.ref 37] μ) (fun m1 => am_ev C 903 89 [.ref 0, .int x1, .int x2, .int x3, .int x4] [] m1)) := am_blk (b := [(.iload 4, 2), (.ifCond .eq 10, 3), (.aload_n 0, 1), (.getfield 41, 3), (.invokevirtual 76, 3)]) rfl rfl (rfl : am_z 903 = 2) _ _ _
set_option maxRecDepth 50000 in
theorem q903_89 (C : am_Ct) (x1 : Int32) (x2 : Int32) (x3 : Int32) (x4 : Int32) (μ : am_Mem) : am_ev C 903 89 [.ref 0, .int x1, .int x2, .int x3, .int x4] [] μ = (am_gb (Nat.blt (am_ix x4) 2) (am_ret (some (.int x4)) μ)) := am_blk (b := [(.iload 4, 2), (.ireturn, 1)]) rfl rfl (rfl : am_z 903 = 2) _ _ _
theorem e903 (d : Nat) (x1 : Int32) (x2 : Int32) (x3 : Int32) (μ : am_Mem) : am_call (d + 1) 903 [.ref 0, .int x1, .int x2, .int x3] μ = am_ev (am_call d) 903 0 [.ref 0, .int x1, .int x2, .int x3, .null] [] μ := rfl
/-! NoWordTwice.entry(IIII)I  -/
set_option maxRecDepth 50000 in
theorem q904_0 (C : am_Ct) (x1 : Int32) (x2 : Int32) (x3 : Int32) (x4 : Int32) (x5 : Value) (μ : am_Mem) : am_ev C 904 0 [.ref 0, .int x1, .int x2, .int x3, .int x4, x5] [] μ = (if (am_c 12) ≤ (μ 1 7) then am_ev C 904 27 [.ref 0, .int x1, .int x2, .int x3, .int x4, x5] [] μ else am_bI (C 705 [.ref 1, .int x1, .int x2, .int x3, .int x4] μ) (fun r1 m1 => if r1 = 0 then am_ev C 904 27 [.ref 0, .int x1, .int x2, .int x3, .int x4, x5] [] m1 else am_ev C 904 29 [.ref 0, .int x1, .int x2, .int x3, .int x4, x5] [] m1)) := am_blk (b := [(.aload_n 0, 1), (.getfield 10, 3), (.getfield 103, 3), (.bipush 12, 2), (.if_icmp .ge 18, 3), (.aload_n 0, 1), (.getfield 10, 3), (.iload_n 1, 1), (.iload_n 2, 1), (.iload_n 3, 1), (.iload 4, 2), (.invokevirtual 106, 3), (.ifCond .ne 5, 3)]) rfl rfl (rfl : am_z 904 = 0) _ _ _
set_option maxRecDepth 50000 in
theorem q904_27 (C : am_Ct) (x1 : Int32) (x2 : Int32) (x3 : Int32) (x4 : Int32) (x5 : Value) (μ : am_Mem) : am_ev C 904 27 [.ref 0, .int x1, .int x2, .int x3, .int x4, x5] [] μ = (am_ret (some (.int (am_c (-1)))) μ) := am_blk (b := [(.iconst (-1), 1), (.ireturn, 1)]) rfl rfl (rfl : am_z 904 = 0) _ _ _
set_option maxRecDepth 50000 in
theorem q904_29 (C : am_Ct) (x1 : Int32) (x2 : Int32) (x3 : Int32) (x4 : Int32) (x5 : Value) (μ : am_Mem) : am_ev C 904 29 [.ref 0, .int x1, .int x2, .int x3, .int x4, x5] [] μ = (am_bI (C 706 [.ref 1, .int x1, .int x2, .int x3, .int x4] μ) (fun r1 m1 => am_bV (C 401 [.ref 37] m1) (fun m2 => am_ret (some (.int r1)) m2))) := am_blk (b := [(.aload_n 0, 1), (.getfield 10, 3), (.iload_n 1, 1), (.iload_n 2, 1), (.iload_n 3, 1), (.iload 4, 2), (.invokevirtual 110, 3), (.istore 5, 2), (.aload_n 0, 1), (.getfield 41, 3), (.invokevirtual 76, 3), (.iload 5, 2), (.ireturn, 1)]) rfl rfl (rfl : am_z 904 = 0) _ _ _
theorem e904 (d : Nat) (x1 : Int32) (x2 : Int32) (x3 : Int32) (x4 : Int32) (μ : am_Mem) : am_call (d + 1) 904 [.ref 0, .int x1, .int x2, .int x3, .int x4] μ = am_ev (am_call d) 904 0 [.ref 0, .int x1, .int x2, .int x3, .int x4, .null] [] μ := rfl
/-! NoWordTwice.drop(I)Z  -/
set_option maxRecDepth 50000 in
theorem q905_0 (C : am_Ct) (x1 : Int32) (μ : am_Mem) : am_ev C 905 0 [.ref 0, .int x1] [] μ = (am_bI (C 703 [.ref 1, .int x1] μ) (fun r1 m1 => if r1 = 0 then am_ret (some (.int (am_c 0))) m1 else am_ev C 905 13 [.ref 0, .int x1] [] m1)) := am_blk (b := [(.aload_n 0, 1), (.getfield 10, 3), (.iload_n 1, 1), (.invokevirtual 114, 3), (.ifCond .ne 5, 3), (.iconst 0, 1), (.ireturn, 1)]) rfl rfl (rfl : am_z 905 = 2) _ _ _
set_option maxRecDepth 50000 in
theorem q905_13 (C : am_Ct) (x1 : Int32) (μ : am_Mem) : am_ev C 905 13 [.ref 0, .int x1] [] μ = (am_bV (C 707 [.ref 1, .int x1, .int ((μ 1 7) - (am_c 1))] μ) (fun m1 => am_bV (C 401 [.ref 37] (am_up m1 1 7 ((m1 1 7) - (am_c 1)))) (fun m2 => am_ret (some (.int (am_c 1))) m2))) := am_blk (b := [(.aload_n 0, 1), (.getfield 10, 3), (.iload_n 1, 1), (.aload_n 0, 1), (.getfield 10, 3), (.getfield 103, 3), (.iconst 1, 1), (.isub, 1), (.invokevirtual 117, 3), (.aload_n 0, 1), (.getfield 10, 3), (.dup, 1), (.getfield 103, 3), (.iconst 1, 1), (.isub, 1), (.putfield 103, 3), (.aload_n 0, 1), (.getfield 41, 3), (.invokevirtual 76, 3), (.iconst 1, 1), (.ireturn, 1)]) rfl rfl (rfl : am_z 905 = 2) _ _ _
theorem e905 (d : Nat) (x1 : Int32) (μ : am_Mem) : am_call (d + 1) 905 [.ref 0, .int x1] μ = am_ev (am_call d) 905 0 [.ref 0, .int x1] [] μ := rfl
/-! NoWordTwice.move(II)Z  -/
set_option maxRecDepth 50000 in
theorem q906_0 (C : am_Ct) (x1 : Int32) (x2 : Int32) (μ : am_Mem) : am_ev C 906 0 [.ref 0, .int x1, .int x2] [] μ = (am_bI (C 703 [.ref 1, .int x1] μ) (fun r1 m1 => if r1 = 0 then am_ev C 906 22 [.ref 0, .int x1, .int x2] [] m1 else am_bI (C 703 [.ref 1, .int x2] m1) (fun r2 m2 => if r2 = 0 then am_ev C 906 22 [.ref 0, .int x1, .int x2] [] m2 else am_ev C 906 24 [.ref 0, .int x1, .int x2] [] m2))) := am_blk (b := [(.aload_n 0, 1), (.getfield 10, 3), (.iload_n 1, 1), (.invokevirtual 114, 3), (.ifCond .eq 14, 3), (.aload_n 0, 1), (.getfield 10, 3), (.iload_n 2, 1), (.invokevirtual 114, 3), (.ifCond .ne 5, 3)]) rfl rfl (rfl : am_z 906 = 2) _ _ _
set_option maxRecDepth 50000 in
theorem q906_22 (C : am_Ct) (x1 : Int32) (x2 : Int32) (μ : am_Mem) : am_ev C 906 22 [.ref 0, .int x1, .int x2] [] μ = (am_ret (some (.int (am_c 0))) μ) := am_blk (b := [(.iconst 0, 1), (.ireturn, 1)]) rfl rfl (rfl : am_z 906 = 2) _ _ _
set_option maxRecDepth 50000 in
theorem q906_24 (C : am_Ct) (x1 : Int32) (x2 : Int32) (μ : am_Mem) : am_ev C 906 24 [.ref 0, .int x1, .int x2] [] μ = (am_bV (C 707 [.ref 1, .int x1, .int x2] μ) (fun m1 => am_bV (C 401 [.ref 37] m1) (fun m2 => am_ret (some (.int (am_c 1))) m2))) := am_blk (b := [(.aload_n 0, 1), (.getfield 10, 3), (.iload_n 1, 1), (.iload_n 2, 1), (.invokevirtual 117, 3), (.aload_n 0, 1), (.getfield 41, 3), (.invokevirtual 76, 3), (.iconst 1, 1), (.ireturn, 1)]) rfl rfl (rfl : am_z 906 = 2) _ _ _
theorem e906 (d : Nat) (x1 : Int32) (x2 : Int32) (μ : am_Mem) : am_call (d + 1) 906 [.ref 0, .int x1, .int x2] μ = am_ev (am_call d) 906 0 [.ref 0, .int x1, .int x2] [] μ := rfl
/-! NoWordTwice.feed(IIIII)I  -/
set_option maxRecDepth 50000 in
theorem q907_0 (C : am_Ct) (x1 : Int32) (x2 : Int32) (x3 : Int32) (x4 : Int32) (x5 : Int32) (μ : am_Mem) : am_ev C 907 0 [.ref 0, .int x1, .int x2, .int x3, .int x4, .int x5] [] μ = (if ((μ 0 4) + (am_c 20)) ≤ (am_c 400) then am_ev C 907 15 [.ref 0, .int x1, .int x2, .int x3, .int x4, .int x5] [] μ else am_ret (some (.int (am_c (-1)))) μ) := am_blk (b := [(.aload_n 0, 1), (.getfield 27, 3), (.bipush 20, 2), (.iadd, 1), (.sipush 400, 3), (.if_icmp .le 5, 3), (.iconst (-1), 1), (.ireturn, 1)]) rfl rfl (rfl : am_z 907 = 0) _ _ _
set_option maxRecDepth 50000 in
theorem q907_15 (C : am_Ct) (x1 : Int32) (x2 : Int32) (x3 : Int32) (x4 : Int32) (x5 : Int32) (μ : am_Mem) : am_ev C 907 15 [.ref 0, .int x1, .int x2, .int x3, .int x4, .int x5] [] μ = (am_bV (C 933 [.ref 0, .int x1] μ) (fun m1 => am_bV (C 933 [.ref 0, .int x2] m1) (fun m2 => am_bV (C 933 [.ref 0, .int x3] m2) (fun m3 => am_bV (C 933 [.ref 0, .int x4] m3) (fun m4 => am_bV (C 933 [.ref 0, .int x5] m4) (fun m5 => am_ret (some (.int (m5 0 4))) m5)))))) := am_blk (b := [(.aload_n 0, 1), (.iload_n 1, 1), (.invokevirtual 121, 3), (.aload_n 0, 1), (.iload_n 2, 1), (.invokevirtual 121, 3), (.aload_n 0, 1), (.iload_n 3, 1), (.invokevirtual 121, 3), (.aload_n 0, 1), (.iload 4, 2), (.invokevirtual 121, 3), (.aload_n 0, 1), (.iload 5, 2), (.invokevirtual 121, 3), (.aload_n 0, 1), (.getfield 27, 3), (.ireturn, 1)]) rfl rfl (rfl : am_z 907 = 0) _ _ _
theorem e907 (d : Nat) (x1 : Int32) (x2 : Int32) (x3 : Int32) (x4 : Int32) (x5 : Int32) (μ : am_Mem) : am_call (d + 1) 907 [.ref 0, .int x1, .int x2, .int x3, .int x4, .int x5] μ = am_ev (am_call d) 907 0 [.ref 0, .int x1, .int x2, .int x3, .int x4, .int x5] [] μ := rfl
/-! NoWordTwice.end(I)Z  -/
set_option maxRecDepth 50000 in
theorem q908_0 (C : am_Ct) (x1 : Int32) (μ : am_Mem) : am_ev C 908 0 [.ref 0, .int x1] [] μ = (if x1 < 0 then am_ev C 908 12 [.ref 0, .int x1] [] μ else if x1 ≤ (μ 0 4) then am_ev C 908 14 [.ref 0, .int x1] [] μ else am_ev C 908 12 [.ref 0, .int x1] [] μ) := am_blk (b := [(.iload_n 1, 1), (.ifCond .lt 11, 3), (.iload_n 1, 1), (.aload_n 0, 1), (.getfield 27, 3), (.if_icmp .le 5, 3)]) rfl rfl (rfl : am_z 908 = 2) _ _ _
set_option maxRecDepth 50000 in
theorem q908_12 (C : am_Ct) (x1 : Int32) (μ : am_Mem) : am_ev C 908 12 [.ref 0, .int x1] [] μ = (am_ret (some (.int (am_c 0))) μ) := am_blk (b := [(.iconst 0, 1), (.ireturn, 1)]) rfl rfl (rfl : am_z 908 = 2) _ _ _
set_option maxRecDepth 50000 in
theorem q908_14 (C : am_Ct) (x1 : Int32) (μ : am_Mem) : am_ev C 908 14 [.ref 0, .int x1] [] μ = (am_ret (some (.int (am_c 1))) (am_up μ 0 4 x1)) := am_blk (b := [(.aload_n 0, 1), (.iload_n 1, 1), (.putfield 27, 3), (.iconst 1, 1), (.ireturn, 1)]) rfl rfl (rfl : am_z 908 = 2) _ _ _
theorem e908 (d : Nat) (x1 : Int32) (μ : am_Mem) : am_call (d + 1) 908 [.ref 0, .int x1] μ = am_ev (am_call d) 908 0 [.ref 0, .int x1] [] μ := rfl
/-! NoWordTwice.text()I  -/
set_option maxRecDepth 50000 in
theorem q909_0 (C : am_Ct) (x1 : Value) (x2 : Value) (μ : am_Mem) : am_ev C 909 0 [.ref 0, x1, x2] [] μ = (am_bV (C 212 [.ref 26, .ref 25, .int (μ 0 4)] μ) (fun m1 => am_ev C 909 24 [.ref 0, .int (am_c 1), .int (am_c 0)] [] (am_up m1 0 4 (am_c 0)))) := am_blk (b := [(.aload_n 0, 1), (.getfield 34, 3), (.aload_n 0, 1), (.getfield 23, 3), (.aload_n 0, 1), (.getfield 27, 3), (.invokevirtual 125, 3), (.aload_n 0, 1), (.iconst 0, 1), (.putfield 27, 3), (.iconst 1, 1), (.istore_n 1, 1), (.iconst 0, 1), (.istore_n 2, 1)]) rfl rfl (rfl : am_z 909 = 0) _ _ _
set_option maxRecDepth 50000 in
theorem q909_24 (C : am_Ct) (x1 : Int32) (x2 : Int32) (μ : am_Mem) : am_ev C 909 24 [.ref 0, .int x1, .int x2] [] μ = (if (am_c 16) < x2 then am_ev C 909 58 [.ref 0, .int x1, .int x2] [] μ else if x1 = 0 then am_ev C 909 58 [.ref 0, .int x1, .int x2] [] μ else am_bI (C 213 [.ref 26] μ) (fun r1 m1 => if r1 = 0 then am_ev C 909 58 [.ref 0, .int x1, .int x2] [] m1 else am_bI (C 206 [.ref 26] m1) (fun r2 m2 => am_ev C 909 24 [.ref 0, .int r2, .int (x2 + (am_c 1))] [] m2))) := am_blk (b := [(.iload_n 2, 1), (.bipush 16, 2), (.if_icmp .gt 31, 3), (.iload_n 1, 1), (.ifCond .eq 27, 3), (.aload_n 0, 1), (.getfield 34, 3), (.invokevirtual 129, 3), (.ifCond .eq 17, 3), (.aload_n 0, 1), (.getfield 34, 3), (.invokevirtual 133, 3), (.istore_n 1, 1), (.iinc 2 1, 3), (.goto (-31), 3)]) rfl rfl (rfl : am_z 909 = 0) _ _ _
set_option maxRecDepth 50000 in
theorem q909_58 (C : am_Ct) (x1 : Int32) (x2 : Int32) (μ : am_Mem) : am_ev C 909 58 [.ref 0, .int x1, .int x2] [] μ = (if x1 = 0 then am_ret (some (.int (am_c (-1)))) μ else am_ev C 909 64 [.ref 0, .int x1, .int x2] [] μ) := am_blk (b := [(.iload_n 1, 1), (.ifCond .ne 5, 3), (.iconst (-1), 1), (.ireturn, 1)]) rfl rfl (rfl : am_z 909 = 0) _ _ _
set_option maxRecDepth 50000 in
theorem q909_64 (C : am_Ct) (x1 : Int32) (x2 : Int32) (μ : am_Mem) : am_ev C 909 64 [.ref 0, .int x1, .int x2] [] μ = (am_bV (C 101 [.ref 7, .ref 31] μ) (fun m1 => am_ret (some (.int (m1 7 0))) m1)) := am_blk (b := [(.aload_n 0, 1), (.getfield 10, 3), (.getfield 136, 3), (.aload_n 0, 1), (.getfield 34, 3), (.getfield 140, 3), (.invokevirtual 141, 3), (.aload_n 0, 1), (.getfield 10, 3), (.getfield 136, 3), (.getfield 147, 3), (.ireturn, 1)]) rfl rfl (rfl : am_z 909 = 0) _ _ _
theorem e909 (d : Nat) (μ : am_Mem) : am_call (d + 1) 909 [.ref 0] μ = am_ev (am_call d) 909 0 [.ref 0, .null, .null] [] μ := rfl
/-! NoWordTwice.fault(I)I  -/
set_option maxRecDepth 50000 in
theorem q910_0 (C : am_Ct) (x1 : Int32) (μ : am_Mem) : am_ev C 910 0 [.ref 0, .int x1] [] μ = (if x1 = (am_c 0) then am_ev C 910 28 [.ref 0, .int x1] [] μ else if x1 = (am_c 1) then am_ev C 910 36 [.ref 0, .int x1] [] μ else am_ev C 910 44 [.ref 0, .int x1] [] μ) := am_blk (b := [(.iload_n 1, 1), (.lookupswitch 43 #[(0, 27), (1, 35)], 27)]) rfl rfl (rfl : am_z 910 = 0) _ _ _
set_option maxRecDepth 50000 in
theorem q910_28 (C : am_Ct) (x1 : Int32) (μ : am_Mem) : am_ev C 910 28 [.ref 0, .int x1] [] μ = (am_ret (some (.int (μ 26 5))) μ) := am_blk (b := [(.aload_n 0, 1), (.getfield 34, 3), (.getfield 150, 3), (.ireturn, 1)]) rfl rfl (rfl : am_z 910 = 0) _ _ _
set_option maxRecDepth 50000 in
theorem q910_36 (C : am_Ct) (x1 : Int32) (μ : am_Mem) : am_ev C 910 36 [.ref 0, .int x1] [] μ = (am_ret (some (.int (μ 26 6))) μ) := am_blk (b := [(.aload_n 0, 1), (.getfield 34, 3), (.getfield 153, 3), (.ireturn, 1)]) rfl rfl (rfl : am_z 910 = 0) _ _ _
set_option maxRecDepth 50000 in
theorem q910_44 (C : am_Ct) (x1 : Int32) (μ : am_Mem) : am_ev C 910 44 [.ref 0, .int x1] [] μ = (am_ret (some (.int (am_c (-1)))) μ) := am_blk (b := [(.iconst (-1), 1), (.ireturn, 1)]) rfl rfl (rfl : am_z 910 = 0) _ _ _
theorem e910 (d : Nat) (x1 : Int32) (μ : am_Mem) : am_call (d + 1) 910 [.ref 0, .int x1] μ = am_ev (am_call d) 910 0 [.ref 0, .int x1] [] μ := rfl
/-! NoWordTwice.editions(I)I  -/
set_option maxRecDepth 50000 in
theorem q911_0 (C : am_Ct) (x1 : Int32) (x2 : Value) (x3 : Value) (μ : am_Mem) : am_ev C 911 0 [.ref 0, .int x1, x2, x3] [] μ = (if x1 < (am_c 1) then am_ev C 911 26 [.ref 0, .int x1, x2, x3] [] μ else if (am_c 50) < x1 then am_ev C 911 26 [.ref 0, .int x1, x2, x3] [] μ else if ((μ 1 3) + x1) ≤ (am_c 9999) then am_ev C 911 28 [.ref 0, .int x1, x2, x3] [] μ else am_ev C 911 26 [.ref 0, .int x1, x2, x3] [] μ) := am_blk (b := [(.iload_n 1, 1), (.iconst 1, 1), (.if_icmp .lt 24, 3), (.iload_n 1, 1), (.bipush 50, 2), (.if_icmp .gt 18, 3), (.aload_n 0, 1), (.getfield 10, 3), (.getfield 156, 3), (.iload_n 1, 1), (.iadd, 1), (.sipush 9999, 3), (.if_icmp .le 5, 3)]) rfl rfl (rfl : am_z 911 = 0) _ _ _
set_option maxRecDepth 50000 in
theorem q911_26 (C : am_Ct) (x1 : Int32) (x2 : Value) (x3 : Value) (μ : am_Mem) : am_ev C 911 26 [.ref 0, .int x1, x2, x3] [] μ = (am_ret (some (.int (am_c (-1)))) μ) := am_blk (b := [(.iconst (-1), 1), (.ireturn, 1)]) rfl rfl (rfl : am_z 911 = 0) _ _ _
set_option maxRecDepth 50000 in
theorem q911_28 (C : am_Ct) (x1 : Int32) (x2 : Value) (x3 : Value) (μ : am_Mem) : am_ev C 911 28 [.ref 0, .int x1, x2, x3] [] μ = (am_ev C 911 32 [.ref 0, .int x1, .int (am_c 0), .int (am_c 0)] [] μ) := am_blk (b := [(.iconst 0, 1), (.istore_n 2, 1), (.iconst 0, 1), (.istore_n 3, 1)]) rfl rfl (rfl : am_z 911 = 0) _ _ _
set_option maxRecDepth 50000 in
theorem q911_32 (C : am_Ct) (x1 : Int32) (x2 : Int32) (x3 : Int32) (μ : am_Mem) : am_ev C 911 32 [.ref 0, .int x1, .int x2, .int x3] [] μ = (if x1 ≤ x3 then am_ev C 911 64 [.ref 0, .int x1, .int x2, .int x3] [] μ else am_bV (C 402 [.ref 37, .ref 1] μ) (fun m1 => am_bI (C 723 [.ref 1] m1) (fun r2 m2 => am_ev C 911 32 [.ref 0, .int x1, .int (x2 + r2), .int (x3 + (am_c 1))] [] m2))) := am_blk (b := [(.iload_n 3, 1), (.iload_n 1, 1), (.if_icmp .ge 30, 3), (.aload_n 0, 1), (.getfield 41, 3), (.aload_n 0, 1), (.getfield 10, 3), (.invokevirtual 159, 3), (.iload_n 2, 1), (.aload_n 0, 1), (.getfield 10, 3), (.invokevirtual 163, 3), (.iadd, 1), (.istore_n 2, 1), (.iinc 3 1, 3), (.goto (-29), 3)]) rfl rfl (rfl : am_z 911 = 0) _ _ _
set_option maxRecDepth 50000 in
theorem q911_64 (C : am_Ct) (x1 : Int32) (x2 : Int32) (x3 : Int32) (μ : am_Mem) : am_ev C 911 64 [.ref 0, .int x1, .int x2, .int x3] [] μ = (am_ret (some (.int x2)) μ) := am_blk (b := [(.iload_n 2, 1), (.ireturn, 1)]) rfl rfl (rfl : am_z 911 = 0) _ _ _
theorem e911 (d : Nat) (x1 : Int32) (μ : am_Mem) : am_call (d + 1) 911 [.ref 0, .int x1] μ = am_ev (am_call d) 911 0 [.ref 0, .int x1, .null, .null] [] μ := rfl
/-! NoWordTwice.of(II)I  -/
set_option maxRecDepth 50000 in
theorem q912_0 (C : am_Ct) (x1 : Int32) (x2 : Int32) (μ : am_Mem) : am_ev C 912 0 [.ref 0, .int x1, .int x2] [] μ = (am_bI (C 702 [.ref 1, .int x1] μ) (fun r1 m1 => if r1 = 0 then am_ret (some (.int (am_c (-2)))) m1 else am_ev C 912 14 [.ref 0, .int x1, .int x2] [] m1)) := am_blk (b := [(.aload_n 0, 1), (.getfield 10, 3), (.iload_n 1, 1), (.invokevirtual 167, 3), (.ifCond .ne 6, 3), (.bipush (-2), 2), (.ireturn, 1)]) rfl rfl (rfl : am_z 912 = 0) _ _ _
set_option maxRecDepth 50000 in
theorem q912_14 (C : am_Ct) (x1 : Int32) (x2 : Int32) (μ : am_Mem) : am_ev C 912 14 [.ref 0, .int x1, .int x2] [] μ = (if x2 = (am_c 0) then am_ev C 912 48 [.ref 0, .int x1, .int x2] [] μ else if x2 = (am_c 1) then am_ev C 912 58 [.ref 0, .int x1, .int x2] [] μ else if x2 = (am_c 2) then am_ev C 912 70 [.ref 0, .int x1, .int x2] [] μ else if x2 = (am_c 3) then am_ev C 912 86 [.ref 0, .int x1, .int x2] [] μ else if x2 = (am_c 4) then am_ev C 912 95 [.ref 0, .int x1, .int x2] [] μ else am_ev C 912 104 [.ref 0, .int x1, .int x2] [] μ) := am_blk (b := [(.iload_n 2, 1), (.tableswitch 89 0 4 #[33, 43, 55, 71, 80], 33)]) rfl rfl (rfl : am_z 912 = 0) _ _ _
set_option maxRecDepth 50000 in
theorem q912_48 (C : am_Ct) (x1 : Int32) (x2 : Int32) (μ : am_Mem) : am_ev C 912 48 [.ref 0, .int x1, .int x2] [] μ = (am_gb (Nat.blt (am_ix x1) 16) (am_ret (some (.int (μ 2 (am_ix x1)))) μ)) := am_blk (b := [(.aload_n 0, 1), (.getfield 10, 3), (.getfield 86, 3), (.iload_n 1, 1), (.iaload, 1), (.ireturn, 1)]) rfl rfl (rfl : am_z 912 = 0) _ _ _
set_option maxRecDepth 50000 in
theorem q912_58 (C : am_Ct) (x1 : Int32) (x2 : Int32) (μ : am_Mem) : am_ev C 912 58 [.ref 0, .int x1, .int x2] [] μ = (am_ret (some (.int (((μ 1 6) >>> (x1 &&& 31)) &&& (am_c 1)))) μ) := am_blk (b := [(.aload_n 0, 1), (.getfield 10, 3), (.getfield 170, 3), (.iload_n 1, 1), (.ishr, 1), (.iconst 1, 1), (.iand, 1), (.ireturn, 1)]) rfl rfl (rfl : am_z 912 = 0) _ _ _
set_option maxRecDepth 50000 in
theorem q912_70 (C : am_Ct) (x1 : Int32) (x2 : Int32) (μ : am_Mem) : am_ev C 912 70 [.ref 0, .int x1, .int x2] [] μ = (am_bI (C 713 [.ref 1, .int x1, .int (μ 1 7)] μ) (fun r1 m1 => am_ret (some (.int r1)) m1)) := am_blk (b := [(.aload_n 0, 1), (.getfield 10, 3), (.iload_n 1, 1), (.aload_n 0, 1), (.getfield 10, 3), (.getfield 103, 3), (.invokevirtual 173, 3), (.ireturn, 1)]) rfl rfl (rfl : am_z 912 = 0) _ _ _
set_option maxRecDepth 50000 in
theorem q912_86 (C : am_Ct) (x1 : Int32) (x2 : Int32) (μ : am_Mem) : am_ev C 912 86 [.ref 0, .int x1, .int x2] [] μ = (am_bI (C 714 [.ref 1, .int x1] μ) (fun r1 m1 => am_ret (some (.int r1)) m1)) := am_blk (b := [(.aload_n 0, 1), (.getfield 10, 3), (.iload_n 1, 1), (.invokevirtual 177, 3), (.ireturn, 1)]) rfl rfl (rfl : am_z 912 = 0) _ _ _
set_option maxRecDepth 50000 in
theorem q912_95 (C : am_Ct) (x1 : Int32) (x2 : Int32) (μ : am_Mem) : am_ev C 912 95 [.ref 0, .int x1, .int x2] [] μ = (am_bI (C 715 [.ref 1, .int x1] μ) (fun r1 m1 => am_ret (some (.int r1)) m1)) := am_blk (b := [(.aload_n 0, 1), (.getfield 10, 3), (.iload_n 1, 1), (.invokevirtual 181, 3), (.ireturn, 1)]) rfl rfl (rfl : am_z 912 = 0) _ _ _
set_option maxRecDepth 50000 in
theorem q912_104 (C : am_Ct) (x1 : Int32) (x2 : Int32) (μ : am_Mem) : am_ev C 912 104 [.ref 0, .int x1, .int x2] [] μ = (am_ret (some (.int (am_c (-2)))) μ) := am_blk (b := [(.bipush (-2), 2), (.ireturn, 1)]) rfl rfl (rfl : am_z 912 = 0) _ _ _
theorem e912 (d : Nat) (x1 : Int32) (x2 : Int32) (μ : am_Mem) : am_call (d + 1) 912 [.ref 0, .int x1, .int x2] μ = am_ev (am_call d) 912 0 [.ref 0, .int x1, .int x2] [] μ := rfl
/-! NoWordTwice.at(II)I  -/
set_option maxRecDepth 50000 in
theorem q913_0 (C : am_Ct) (x1 : Int32) (x2 : Int32) (μ : am_Mem) : am_ev C 913 0 [.ref 0, .int x1, .int x2] [] μ = (am_bI (C 703 [.ref 1, .int x1] μ) (fun r1 m1 => if r1 = 0 then am_ret (some (.int (am_c (-1)))) m1 else am_ev C 913 13 [.ref 0, .int x1, .int x2] [] m1)) := am_blk (b := [(.aload_n 0, 1), (.getfield 10, 3), (.iload_n 1, 1), (.invokevirtual 114, 3), (.ifCond .ne 5, 3), (.iconst (-1), 1), (.ireturn, 1)]) rfl rfl (rfl : am_z 913 = 0) _ _ _
set_option maxRecDepth 50000 in
theorem q913_13 (C : am_Ct) (x1 : Int32) (x2 : Int32) (μ : am_Mem) : am_ev C 913 13 [.ref 0, .int x1, .int x2] [] μ = (if x2 = (am_c 0) then am_ev C 913 40 [.ref 0, .int x1, .int x2] [] μ else if x2 = (am_c 1) then am_ev C 913 50 [.ref 0, .int x1, .int x2] [] μ else if x2 = (am_c 2) then am_ev C 913 60 [.ref 0, .int x1, .int x2] [] μ else am_ev C 913 77 [.ref 0, .int x1, .int x2] [] μ) := am_blk (b := [(.iload_n 2, 1), (.tableswitch 63 0 2 #[26, 36, 46], 26)]) rfl rfl (rfl : am_z 913 = 0) _ _ _
set_option maxRecDepth 50000 in
theorem q913_40 (C : am_Ct) (x1 : Int32) (x2 : Int32) (μ : am_Mem) : am_ev C 913 40 [.ref 0, .int x1, .int x2] [] μ = (am_gb (Nat.blt (am_ix x1) 12) (am_ret (some (.int (μ 3 (am_ix x1)))) μ)) := am_blk (b := [(.aload_n 0, 1), (.getfield 10, 3), (.getfield 184, 3), (.iload_n 1, 1), (.iaload, 1), (.ireturn, 1)]) rfl rfl (rfl : am_z 913 = 0) _ _ _
set_option maxRecDepth 50000 in
theorem q913_50 (C : am_Ct) (x1 : Int32) (x2 : Int32) (μ : am_Mem) : am_ev C 913 50 [.ref 0, .int x1, .int x2] [] μ = (am_gb (Nat.blt (am_ix x1) 12) (am_ret (some (.int (μ 4 (am_ix x1)))) μ)) := am_blk (b := [(.aload_n 0, 1), (.getfield 10, 3), (.getfield 187, 3), (.iload_n 1, 1), (.iaload, 1), (.ireturn, 1)]) rfl rfl (rfl : am_z 913 = 0) _ _ _
set_option maxRecDepth 50000 in
theorem q913_60 (C : am_Ct) (x1 : Int32) (x2 : Int32) (μ : am_Mem) : am_ev C 913 60 [.ref 0, .int x1, .int x2] [] μ = (am_bI (C 717 [.ref 1, .int x1] μ) (fun r1 m1 => if r1 = 0 then am_ev C 913 75 [.ref 0, .int x1, .int x2] [] m1 else am_ev C 913 76 [.ref 0, .int x1, .int x2] [.int (am_c 1)] m1)) := am_blk (b := [(.aload_n 0, 1), (.getfield 10, 3), (.iload_n 1, 1), (.invokevirtual 190, 3), (.ifCond .eq 7, 3), (.iconst 1, 1), (.goto 4, 3)]) rfl rfl (rfl : am_z 913 = 0) _ _ _
set_option maxRecDepth 50000 in
theorem q913_75 (C : am_Ct) (x1 : Int32) (x2 : Int32) (μ : am_Mem) : am_ev C 913 75 [.ref 0, .int x1, .int x2] [] μ = (am_ev C 913 76 [.ref 0, .int x1, .int x2] [.int (am_c 0)] μ) := am_blk (b := [(.iconst 0, 1)]) rfl rfl (rfl : am_z 913 = 0) _ _ _
set_option maxRecDepth 50000 in
theorem q913_76 (C : am_Ct) (x1 : Int32) (x2 : Int32) (s0 : Int32) (μ : am_Mem) : am_ev C 913 76 [.ref 0, .int x1, .int x2] [.int s0] μ = (am_ret (some (.int s0)) μ) := am_blk (b := [(.ireturn, 1)]) rfl rfl (rfl : am_z 913 = 0) _ _ _
set_option maxRecDepth 50000 in
theorem q913_77 (C : am_Ct) (x1 : Int32) (x2 : Int32) (μ : am_Mem) : am_ev C 913 77 [.ref 0, .int x1, .int x2] [] μ = (if x2 < (am_c 10) then am_ev C 913 98 [.ref 0, .int x1, .int x2] [] μ else am_bI (C 710 [.ref 1, .int x1, .int (x2 - (am_c 10))] μ) (fun r1 m1 => am_ev C 913 99 [.ref 0, .int x1, .int x2] [.int r1] m1)) := am_blk (b := [(.iload_n 2, 1), (.bipush 10, 2), (.if_icmp .lt 18, 3), (.aload_n 0, 1), (.getfield 10, 3), (.iload_n 1, 1), (.iload_n 2, 1), (.bipush 10, 2), (.isub, 1), (.invokevirtual 193, 3), (.goto 4, 3)]) rfl rfl (rfl : am_z 913 = 0) _ _ _
set_option maxRecDepth 50000 in
theorem q913_98 (C : am_Ct) (x1 : Int32) (x2 : Int32) (μ : am_Mem) : am_ev C 913 98 [.ref 0, .int x1, .int x2] [] μ = (am_ev C 913 99 [.ref 0, .int x1, .int x2] [.int (am_c (-1))] μ) := am_blk (b := [(.iconst (-1), 1)]) rfl rfl (rfl : am_z 913 = 0) _ _ _
set_option maxRecDepth 50000 in
theorem q913_99 (C : am_Ct) (x1 : Int32) (x2 : Int32) (s0 : Int32) (μ : am_Mem) : am_ev C 913 99 [.ref 0, .int x1, .int x2] [.int s0] μ = (am_ret (some (.int s0)) μ) := am_blk (b := [(.ireturn, 1)]) rfl rfl (rfl : am_z 913 = 0) _ _ _
theorem e913 (d : Nat) (x1 : Int32) (x2 : Int32) (μ : am_Mem) : am_call (d + 1) 913 [.ref 0, .int x1, .int x2] μ = am_ev (am_call d) 913 0 [.ref 0, .int x1, .int x2] [] μ := rfl
/-! NoWordTwice.fixes(II)I  -/
set_option maxRecDepth 50000 in
theorem q914_0 (C : am_Ct) (x1 : Int32) (x2 : Int32) (μ : am_Mem) : am_ev C 914 0 [.ref 0, .int x1, .int x2] [] μ = (am_bI (C 702 [.ref 1, .int x1] μ) (fun r1 m1 => if r1 = 0 then am_ev C 914 34 [.ref 0, .int x1, .int x2] [] m1 else am_bI (C 704 [.ref 1, .int x2] m1) (fun r2 m2 => if r2 = 0 then am_ev C 914 34 [.ref 0, .int x1, .int x2] [] m2 else if x2 = 0 then am_ev C 914 34 [.ref 0, .int x1, .int x2] [] m2 else if ((x2 >>> (x1 &&& 31)) &&& (am_c 1)) = 0 then am_ev C 914 36 [.ref 0, .int x1, .int x2] [] m2 else am_ev C 914 34 [.ref 0, .int x1, .int x2] [] m2))) := am_blk (b := [(.aload_n 0, 1), (.getfield 10, 3), (.iload_n 1, 1), (.invokevirtual 167, 3), (.ifCond .eq 26, 3), (.aload_n 0, 1), (.getfield 10, 3), (.iload_n 2, 1), (.invokevirtual 196, 3), (.ifCond .eq 15, 3), (.iload_n 2, 1), (.ifCond .eq 11, 3), (.iload_n 2, 1), (.iload_n 1, 1), (.ishr, 1), (.iconst 1, 1), (.iand, 1), (.ifCond .eq 5, 3)]) rfl rfl (rfl : am_z 914 = 0) _ _ _
set_option maxRecDepth 50000 in
theorem q914_34 (C : am_Ct) (x1 : Int32) (x2 : Int32) (μ : am_Mem) : am_ev C 914 34 [.ref 0, .int x1, .int x2] [] μ = (am_ret (some (.int (am_c (-1)))) μ) := am_blk (b := [(.iconst (-1), 1), (.ireturn, 1)]) rfl rfl (rfl : am_z 914 = 0) _ _ _
set_option maxRecDepth 50000 in
theorem q914_36 (C : am_Ct) (x1 : Int32) (x2 : Int32) (μ : am_Mem) : am_ev C 914 36 [.ref 0, .int x1, .int x2] [] μ = (am_bI (C 718 [.ref 1, .int x1, .int x2] μ) (fun r1 m1 => if r1 = 0 then am_ev C 914 52 [.ref 0, .int x1, .int x2] [] m1 else am_ev C 914 53 [.ref 0, .int x1, .int x2] [.int (am_c 1)] m1)) := am_blk (b := [(.aload_n 0, 1), (.getfield 10, 3), (.iload_n 1, 1), (.iload_n 2, 1), (.invokevirtual 199, 3), (.ifCond .eq 7, 3), (.iconst 1, 1), (.goto 4, 3)]) rfl rfl (rfl : am_z 914 = 0) _ _ _
set_option maxRecDepth 50000 in
theorem q914_52 (C : am_Ct) (x1 : Int32) (x2 : Int32) (μ : am_Mem) : am_ev C 914 52 [.ref 0, .int x1, .int x2] [] μ = (am_ev C 914 53 [.ref 0, .int x1, .int x2] [.int (am_c 0)] μ) := am_blk (b := [(.iconst 0, 1)]) rfl rfl (rfl : am_z 914 = 0) _ _ _
set_option maxRecDepth 50000 in
theorem q914_53 (C : am_Ct) (x1 : Int32) (x2 : Int32) (s0 : Int32) (μ : am_Mem) : am_ev C 914 53 [.ref 0, .int x1, .int x2] [.int s0] μ = (am_ret (some (.int s0)) μ) := am_blk (b := [(.ireturn, 1)]) rfl rfl (rfl : am_z 914 = 0) _ _ _
theorem e914 (d : Nat) (x1 : Int32) (x2 : Int32) (μ : am_Mem) : am_call (d + 1) 914 [.ref 0, .int x1, .int x2] μ = am_ev (am_call d) 914 0 [.ref 0, .int x1, .int x2] [] μ := rfl
/-! NoWordTwice.judge(I)I  -/
set_option maxRecDepth 50000 in
theorem q915_0 (C : am_Ct) (x1 : Int32) (μ : am_Mem) : am_ev C 915 0 [.ref 0, .int x1] [] μ = (am_bV (C 1 [.ref 41, .ref 1] μ) (fun m1 => if x1 = (am_c 0) then am_ev C 915 40 [.ref 0, .int x1] [] m1 else if x1 = (am_c 1) then am_ev C 915 48 [.ref 0, .int x1] [] m1 else if x1 = (am_c 2) then am_ev C 915 56 [.ref 0, .int x1] [] m1 else am_ev C 915 64 [.ref 0, .int x1] [] m1)) := am_blk (b := [(.aload_n 0, 1), (.getfield 48, 3), (.aload_n 0, 1), (.getfield 10, 3), (.invokevirtual 202, 3), (.iload_n 1, 1), (.tableswitch 52 0 2 #[28, 36, 44], 28)]) rfl rfl (rfl : am_z 915 = 0) _ _ _
set_option maxRecDepth 50000 in
theorem q915_40 (C : am_Ct) (x1 : Int32) (μ : am_Mem) : am_ev C 915 40 [.ref 0, .int x1] [] μ = (am_ret (some (.int (μ 41 0))) μ) := am_blk (b := [(.aload_n 0, 1), (.getfield 48, 3), (.getfield 205, 3), (.ireturn, 1)]) rfl rfl (rfl : am_z 915 = 0) _ _ _
set_option maxRecDepth 50000 in
theorem q915_48 (C : am_Ct) (x1 : Int32) (μ : am_Mem) : am_ev C 915 48 [.ref 0, .int x1] [] μ = (am_ret (some (.int (μ 41 1))) μ) := am_blk (b := [(.aload_n 0, 1), (.getfield 48, 3), (.getfield 208, 3), (.ireturn, 1)]) rfl rfl (rfl : am_z 915 = 0) _ _ _
set_option maxRecDepth 50000 in
theorem q915_56 (C : am_Ct) (x1 : Int32) (μ : am_Mem) : am_ev C 915 56 [.ref 0, .int x1] [] μ = (am_ret (some (.int (μ 41 2))) μ) := am_blk (b := [(.aload_n 0, 1), (.getfield 48, 3), (.getfield 211, 3), (.ireturn, 1)]) rfl rfl (rfl : am_z 915 = 0) _ _ _
set_option maxRecDepth 50000 in
theorem q915_64 (C : am_Ct) (x1 : Int32) (μ : am_Mem) : am_ev C 915 64 [.ref 0, .int x1] [] μ = (am_ret (some (.int (am_c (-1)))) μ) := am_blk (b := [(.iconst (-1), 1), (.ireturn, 1)]) rfl rfl (rfl : am_z 915 = 0) _ _ _
theorem e915 (d : Nat) (x1 : Int32) (μ : am_Mem) : am_call (d + 1) 915 [.ref 0, .int x1] μ = am_ev (am_call d) 915 0 [.ref 0, .int x1] [] μ := rfl
/-! NoWordTwice.learnt(II)I  -/
set_option maxRecDepth 50000 in
theorem q916_0 (C : am_Ct) (x1 : Int32) (x2 : Int32) (μ : am_Mem) : am_ev C 916 0 [.ref 0, .int x1, .int x2] [] μ = (am_bI (C 704 [.ref 1, .int x1] μ) (fun r1 m1 => if r1 = 0 then am_ev C 916 20 [.ref 0, .int x1, .int x2] [] m1 else if x2 < 0 then am_ev C 916 20 [.ref 0, .int x1, .int x2] [] m1 else if x2 ≤ (am_c 1) then am_ev C 916 22 [.ref 0, .int x1, .int x2] [] m1 else am_ev C 916 20 [.ref 0, .int x1, .int x2] [] m1)) := am_blk (b := [(.aload_n 0, 1), (.getfield 10, 3), (.iload_n 1, 1), (.invokevirtual 196, 3), (.ifCond .eq 12, 3), (.iload_n 2, 1), (.ifCond .lt 8, 3), (.iload_n 2, 1), (.iconst 1, 1), (.if_icmp .le 5, 3)]) rfl rfl (rfl : am_z 916 = 0) _ _ _
set_option maxRecDepth 50000 in
theorem q916_20 (C : am_Ct) (x1 : Int32) (x2 : Int32) (μ : am_Mem) : am_ev C 916 20 [.ref 0, .int x1, .int x2] [] μ = (am_ret (some (.int (am_c (-1)))) μ) := am_blk (b := [(.iconst (-1), 1), (.ireturn, 1)]) rfl rfl (rfl : am_z 916 = 0) _ _ _
set_option maxRecDepth 50000 in
theorem q916_22 (C : am_Ct) (x1 : Int32) (x2 : Int32) (μ : am_Mem) : am_ev C 916 22 [.ref 0, .int x1, .int x2] [] μ = (am_bV (C 502 [.ref 42, .ref 1] μ) (fun m1 => am_bV (C 505 [.ref 42, .int x1] m1) (fun m2 => if x2 = 0 then am_ev C 916 62 [.ref 0, .int x1, .int x2] [.int (m2 42 6)] m2 else am_ev C 916 55 [.ref 0, .int x1, .int x2] [] m2))) := am_blk (b := [(.aload_n 0, 1), (.getfield 55, 3), (.aload_n 0, 1), (.getfield 10, 3), (.invokevirtual 214, 3), (.aload_n 0, 1), (.getfield 55, 3), (.iload_n 1, 1), (.invokevirtual 217, 3), (.iload_n 2, 1), (.ifCond .ne 13, 3), (.aload_n 0, 1), (.getfield 55, 3), (.getfield 220, 3), (.goto 10, 3)]) rfl rfl (rfl : am_z 916 = 0) _ _ _
set_option maxRecDepth 50000 in
theorem q916_55 (C : am_Ct) (x1 : Int32) (x2 : Int32) (μ : am_Mem) : am_ev C 916 55 [.ref 0, .int x1, .int x2] [] μ = (am_ev C 916 62 [.ref 0, .int x1, .int x2] [.int (μ 42 7)] μ) := am_blk (b := [(.aload_n 0, 1), (.getfield 55, 3), (.getfield 223, 3)]) rfl rfl (rfl : am_z 916 = 0) _ _ _
set_option maxRecDepth 50000 in
theorem q916_62 (C : am_Ct) (x1 : Int32) (x2 : Int32) (s0 : Int32) (μ : am_Mem) : am_ev C 916 62 [.ref 0, .int x1, .int x2] [.int s0] μ = (am_ret (some (.int s0)) μ) := am_blk (b := [(.ireturn, 1)]) rfl rfl (rfl : am_z 916 = 0) _ _ _
theorem e916 (d : Nat) (x1 : Int32) (x2 : Int32) (μ : am_Mem) : am_call (d + 1) 916 [.ref 0, .int x1, .int x2] μ = am_ev (am_call d) 916 0 [.ref 0, .int x1, .int x2] [] μ := rfl
/-! NoWordTwice.order(I)I  -/
set_option maxRecDepth 50000 in
theorem q917_0 (C : am_Ct) (x1 : Int32) (μ : am_Mem) : am_ev C 917 0 [.ref 0, .int x1] [] μ = (am_bV (C 507 [.ref 42, .ref 1] μ) (fun m1 => if x1 < 0 then am_ev C 917 38 [.ref 0, .int x1] [] m1 else if (m1 42 4) ≤ x1 then am_ev C 917 38 [.ref 0, .int x1] [] m1 else am_gb (Nat.blt (am_ix x1) 12) (am_ev C 917 39 [.ref 0, .int x1] [.int (m1 45 (am_ix x1))] m1))) := am_blk (b := [(.aload_n 0, 1), (.getfield 55, 3), (.aload_n 0, 1), (.getfield 10, 3), (.invokevirtual 226, 3), (.iload_n 1, 1), (.ifCond .lt 26, 3), (.iload_n 1, 1), (.aload_n 0, 1), (.getfield 55, 3), (.getfield 229, 3), (.if_icmp .ge 15, 3), (.aload_n 0, 1), (.getfield 55, 3), (.getfield 232, 3), (.iload_n 1, 1), (.iaload, 1), (.goto 4, 3)]) rfl rfl (rfl : am_z 917 = 0) _ _ _
set_option maxRecDepth 50000 in
theorem q917_38 (C : am_Ct) (x1 : Int32) (μ : am_Mem) : am_ev C 917 38 [.ref 0, .int x1] [] μ = (am_ev C 917 39 [.ref 0, .int x1] [.int (am_c (-1))] μ) := am_blk (b := [(.iconst (-1), 1)]) rfl rfl (rfl : am_z 917 = 0) _ _ _
set_option maxRecDepth 50000 in
theorem q917_39 (C : am_Ct) (x1 : Int32) (s0 : Int32) (μ : am_Mem) : am_ev C 917 39 [.ref 0, .int x1] [.int s0] μ = (am_ret (some (.int s0)) μ) := am_blk (b := [(.ireturn, 1)]) rfl rfl (rfl : am_z 917 = 0) _ _ _
theorem e917 (d : Nat) (x1 : Int32) (μ : am_Mem) : am_call (d + 1) 917 [.ref 0, .int x1] μ = am_ev (am_call d) 917 0 [.ref 0, .int x1] [] μ := rfl
/-! NoWordTwice.ring()I  -/
set_option maxRecDepth 50000 in
theorem q918_0 (C : am_Ct) (μ : am_Mem) : am_ev C 918 0 [.ref 0] [] μ = (am_bV (C 507 [.ref 42, .ref 1] μ) (fun m1 => am_ret (some (.int (m1 42 5))) m1)) := am_blk (b := [(.aload_n 0, 1), (.getfield 55, 3), (.aload_n 0, 1), (.getfield 10, 3), (.invokevirtual 226, 3), (.aload_n 0, 1), (.getfield 55, 3), (.getfield 235, 3), (.ireturn, 1)]) rfl rfl (rfl : am_z 918 = 0) _ _ _
theorem e918 (d : Nat) (μ : am_Mem) : am_call (d + 1) 918 [.ref 0] μ = am_ev (am_call d) 918 0 [.ref 0] [] μ := rfl
/-! NoWordTwice.cut()I  -/
set_option maxRecDepth 50000 in
theorem q919_0 (C : am_Ct) (μ : am_Mem) : am_ev C 919 0 [.ref 0] [] μ = (am_bV (C 501 [.ref 42, .ref 1] μ) (fun m1 => am_bI (C 504 [.ref 42] m1) (fun r2 m2 => am_bI (C 509 [.ref 42, .int (m1 1 6), .int r2] m2) (fun r3 m3 => am_ret (some (.int r3)) m3)))) := am_blk (b := [(.aload_n 0, 1), (.getfield 55, 3), (.aload_n 0, 1), (.getfield 10, 3), (.invokevirtual 238, 3), (.aload_n 0, 1), (.getfield 55, 3), (.aload_n 0, 1), (.getfield 10, 3), (.getfield 170, 3), (.aload_n 0, 1), (.getfield 55, 3), (.invokevirtual 241, 3), (.invokevirtual 244, 3), (.ireturn, 1)]) rfl rfl (rfl : am_z 919 = 0) _ _ _
theorem e919 (d : Nat) (μ : am_Mem) : am_call (d + 1) 919 [.ref 0] μ = am_ev (am_call d) 919 0 [.ref 0] [] μ := rfl
/-! NoWordTwice.least()I  -/
set_option maxRecDepth 50000 in
theorem q920_0 (C : am_Ct) (μ : am_Mem) : am_ev C 920 0 [.ref 0] [] μ = (am_bV (C 502 [.ref 42, .ref 1] μ) (fun m1 => am_bI (C 716 [.ref 1] m1) (fun r2 m2 => am_bI (C 509 [.ref 42, .int (am_c 0), .int r2] m2) (fun r3 m3 => am_ret (some (.int r3)) m3)))) := am_blk (b := [(.aload_n 0, 1), (.getfield 55, 3), (.aload_n 0, 1), (.getfield 10, 3), (.invokevirtual 214, 3), (.aload_n 0, 1), (.getfield 55, 3), (.iconst 0, 1), (.aload_n 0, 1), (.getfield 10, 3), (.invokevirtual 247, 3), (.invokevirtual 244, 3), (.ireturn, 1)]) rfl rfl (rfl : am_z 920 = 0) _ _ _
theorem e920 (d : Nat) (μ : am_Mem) : am_call (d + 1) 920 [.ref 0] μ = am_ev (am_call d) 920 0 [.ref 0] [] μ := rfl
/-! NoWordTwice.most(II)I  -/
set_option maxRecDepth 50000 in
theorem q921_0 (C : am_Ct) (x1 : Int32) (x2 : Int32) (x3 : Value) (μ : am_Mem) : am_ev C 921 0 [.ref 0, .int x1, .int x2, x3] [] μ = (if x2 = 0 then am_ev C 921 24 [.ref 0, .int x1, .int x2, x3] [] μ else if x2 < (am_c 10) then am_ev C 921 28 [.ref 0, .int x1, .int x2, x3] [] μ else am_bI (C 702 [.ref 1, .int (x2 - (am_c 10))] μ) (fun r1 m1 => if r1 = 0 then am_ev C 921 28 [.ref 0, .int x1, .int x2, x3] [] m1 else am_ev C 921 24 [.ref 0, .int x1, .int x2, x3] [] m1)) := am_blk (b := [(.iload_n 2, 1), (.ifCond .eq 23, 3), (.iload_n 2, 1), (.bipush 10, 2), (.if_icmp .lt 21, 3), (.aload_n 0, 1), (.getfield 10, 3), (.iload_n 2, 1), (.bipush 10, 2), (.isub, 1), (.invokevirtual 167, 3), (.ifCond .eq 7, 3)]) rfl rfl (rfl : am_z 921 = 0) _ _ _
set_option maxRecDepth 50000 in
theorem q921_24 (C : am_Ct) (x1 : Int32) (x2 : Int32) (x3 : Value) (μ : am_Mem) : am_ev C 921 24 [.ref 0, .int x1, .int x2, x3] [] μ = (am_ev C 921 29 [.ref 0, .int x1, .int x2, x3] [.int (am_c 1)] μ) := am_blk (b := [(.iconst 1, 1), (.goto 4, 3)]) rfl rfl (rfl : am_z 921 = 0) _ _ _
set_option maxRecDepth 50000 in
theorem q921_28 (C : am_Ct) (x1 : Int32) (x2 : Int32) (x3 : Value) (μ : am_Mem) : am_ev C 921 28 [.ref 0, .int x1, .int x2, x3] [] μ = (am_ev C 921 29 [.ref 0, .int x1, .int x2, x3] [.int (am_c 0)] μ) := am_blk (b := [(.iconst 0, 1)]) rfl rfl (rfl : am_z 921 = 0) _ _ _
set_option maxRecDepth 50000 in
theorem q921_29 (C : am_Ct) (x1 : Int32) (x2 : Int32) (x3 : Value) (s0 : Int32) (μ : am_Mem) : am_ev C 921 29 [.ref 0, .int x1, .int x2, x3] [.int s0] μ = (if x1 < (am_c 1) then am_ev C 921 56 [.ref 0, .int x1, .int x2, .int s0] [] μ else if (am_c 3) < x1 then am_ev C 921 56 [.ref 0, .int x1, .int x2, .int s0] [] μ else if (am_c 7) < (μ 1 4) then am_ev C 921 56 [.ref 0, .int x1, .int x2, .int s0] [] μ else if s0 = 0 then am_ev C 921 56 [.ref 0, .int x1, .int x2, .int s0] [] μ else am_ev C 921 58 [.ref 0, .int x1, .int x2, .int s0] [] μ) := am_blk (b := [(.istore_n 3, 1), (.iload_n 1, 1), (.iconst 1, 1), (.if_icmp .lt 24, 3), (.iload_n 1, 1), (.iconst 3, 1), (.if_icmp .gt 19, 3), (.aload_n 0, 1), (.getfield 10, 3), (.getfield 79, 3), (.bipush 7, 2), (.if_icmp .gt 7, 3), (.iload_n 3, 1), (.ifCond .ne 5, 3)]) rfl rfl (rfl : am_z 921 = 0) _ _ _
set_option maxRecDepth 50000 in
theorem q921_56 (C : am_Ct) (x1 : Int32) (x2 : Int32) (x3 : Int32) (μ : am_Mem) : am_ev C 921 56 [.ref 0, .int x1, .int x2, .int x3] [] μ = (am_ret (some (.int (am_c (-1)))) μ) := am_blk (b := [(.iconst (-1), 1), (.ireturn, 1)]) rfl rfl (rfl : am_z 921 = 0) _ _ _
set_option maxRecDepth 50000 in
theorem q921_58 (C : am_Ct) (x1 : Int32) (x2 : Int32) (x3 : Int32) (μ : am_Mem) : am_ev C 921 58 [.ref 0, .int x1, .int x2, .int x3] [] μ = (am_bV (C 301 [.ref 48, .ref 1, .int x1] μ) (fun m1 => if x2 = 0 then am_ev C 921 96 [.ref 0, .int x1, .int x2, .int x3] [.int (m1 48 0)] m1 else am_ev C 921 84 [.ref 0, .int x1, .int x2, .int x3] [] m1)) := am_blk (b := [(.aload_n 0, 1), (.getfield 69, 3), (.aload_n 0, 1), (.getfield 10, 3), (.iload_n 1, 1), (.invokevirtual 250, 3), (.iload_n 2, 1), (.ifCond .ne 13, 3), (.aload_n 0, 1), (.getfield 69, 3), (.getfield 254, 3), (.goto 15, 3)]) rfl rfl (rfl : am_z 921 = 0) _ _ _
set_option maxRecDepth 50000 in
theorem q921_84 (C : am_Ct) (x1 : Int32) (x2 : Int32) (x3 : Int32) (μ : am_Mem) : am_ev C 921 84 [.ref 0, .int x1, .int x2, .int x3] [] μ = (am_gb (Nat.blt (am_ix (x2 - (am_c 10))) 7) (am_ev C 921 96 [.ref 0, .int x1, .int x2, .int x3] [.int (μ 49 (am_ix (x2 - (am_c 10))))] μ)) := am_blk (b := [(.aload_n 0, 1), (.getfield 69, 3), (.getfield 257, 3), (.iload_n 2, 1), (.bipush 10, 2), (.isub, 1), (.iaload, 1)]) rfl rfl (rfl : am_z 921 = 0) _ _ _
set_option maxRecDepth 50000 in
theorem q921_96 (C : am_Ct) (x1 : Int32) (x2 : Int32) (x3 : Int32) (s0 : Int32) (μ : am_Mem) : am_ev C 921 96 [.ref 0, .int x1, .int x2, .int x3] [.int s0] μ = (am_ret (some (.int s0)) μ) := am_blk (b := [(.ireturn, 1)]) rfl rfl (rfl : am_z 921 = 0) _ _ _
theorem e921 (d : Nat) (x1 : Int32) (x2 : Int32) (μ : am_Mem) : am_call (d + 1) 921 [.ref 0, .int x1, .int x2] μ = am_ev (am_call d) 921 0 [.ref 0, .int x1, .int x2, .null] [] μ := rfl
/-! NoWordTwice.worn(II)I  -/
set_option maxRecDepth 50000 in
theorem q922_0 (C : am_Ct) (x1 : Int32) (x2 : Int32) (μ : am_Mem) : am_ev C 922 0 [.ref 0, .int x1, .int x2] [] μ = (am_bI (C 703 [.ref 1, .int x1] μ) (fun r1 m1 => if r1 = 0 then am_ev C 922 28 [.ref 0, .int x1, .int x2] [] m1 else if x2 < 0 then am_ev C 922 28 [.ref 0, .int x1, .int x2] [] m1 else am_gb (Nat.blt (am_ix x1) 12) (if x2 < (m1 4 (am_ix x1)) then am_ev C 922 30 [.ref 0, .int x1, .int x2] [] m1 else am_ev C 922 28 [.ref 0, .int x1, .int x2] [] m1))) := am_blk (b := [(.aload_n 0, 1), (.getfield 10, 3), (.iload_n 1, 1), (.invokevirtual 114, 3), (.ifCond .eq 20, 3), (.iload_n 2, 1), (.ifCond .lt 16, 3), (.iload_n 2, 1), (.aload_n 0, 1), (.getfield 10, 3), (.getfield 187, 3), (.iload_n 1, 1), (.iaload, 1), (.if_icmp .lt 5, 3)]) rfl rfl (rfl : am_z 922 = 0) _ _ _
set_option maxRecDepth 50000 in
theorem q922_28 (C : am_Ct) (x1 : Int32) (x2 : Int32) (μ : am_Mem) : am_ev C 922 28 [.ref 0, .int x1, .int x2] [] μ = (am_ret (some (.int (am_c (-1)))) μ) := am_blk (b := [(.iconst (-1), 1), (.ireturn, 1)]) rfl rfl (rfl : am_z 922 = 0) _ _ _
set_option maxRecDepth 50000 in
theorem q922_30 (C : am_Ct) (x1 : Int32) (x2 : Int32) (μ : am_Mem) : am_ev C 922 30 [.ref 0, .int x1, .int x2] [] μ = (am_bI (C 720 [.ref 1, .int x1, .int x2] μ) (fun r1 m1 => am_ret (some (.int r1)) m1)) := am_blk (b := [(.aload_n 0, 1), (.getfield 10, 3), (.iload_n 1, 1), (.iload_n 2, 1), (.invokevirtual 260, 3), (.ireturn, 1)]) rfl rfl (rfl : am_z 922 = 0) _ _ _
theorem e922 (d : Nat) (x1 : Int32) (x2 : Int32) (μ : am_Mem) : am_call (d + 1) 922 [.ref 0, .int x1, .int x2] μ = am_ev (am_call d) 922 0 [.ref 0, .int x1, .int x2] [] μ := rfl
/-! NoWordTwice.trade(I)I  -/
set_option maxRecDepth 50000 in
theorem q923_0 (C : am_Ct) (x1 : Int32) (μ : am_Mem) : am_ev C 923 0 [.ref 0, .int x1] [] μ = (if x1 < 0 then am_ev C 923 9 [.ref 0, .int x1] [] μ else if x1 ≤ (am_c 4) then am_ev C 923 11 [.ref 0, .int x1] [] μ else am_ev C 923 9 [.ref 0, .int x1] [] μ) := am_blk (b := [(.iload_n 1, 1), (.ifCond .lt 8, 3), (.iload_n 1, 1), (.iconst 4, 1), (.if_icmp .le 5, 3)]) rfl rfl (rfl : am_z 923 = 0) _ _ _
set_option maxRecDepth 50000 in
theorem q923_9 (C : am_Ct) (x1 : Int32) (μ : am_Mem) : am_ev C 923 9 [.ref 0, .int x1] [] μ = (am_ret (some (.int (am_c (-1)))) μ) := am_blk (b := [(.iconst (-1), 1), (.ireturn, 1)]) rfl rfl (rfl : am_z 923 = 0) _ _ _
set_option maxRecDepth 50000 in
theorem q923_11 (C : am_Ct) (x1 : Int32) (μ : am_Mem) : am_ev C 923 11 [.ref 0, .int x1] [] μ = (am_bV (C 801 [.ref 46, .ref 1] μ) (fun m1 => if x1 = 0 then am_ev C 923 47 [.ref 0, .int x1] [.int (m1 46 0)] m1 else am_ev C 923 36 [.ref 0, .int x1] [] m1)) := am_blk (b := [(.aload_n 0, 1), (.getfield 62, 3), (.aload_n 0, 1), (.getfield 10, 3), (.invokevirtual 263, 3), (.iload_n 1, 1), (.ifCond .ne 13, 3), (.aload_n 0, 1), (.getfield 62, 3), (.getfield 266, 3), (.goto 14, 3)]) rfl rfl (rfl : am_z 923 = 0) _ _ _
set_option maxRecDepth 50000 in
theorem q923_36 (C : am_Ct) (x1 : Int32) (μ : am_Mem) : am_ev C 923 36 [.ref 0, .int x1] [] μ = (am_gb (Nat.blt (am_ix (x1 - (am_c 1))) 4) (am_ev C 923 47 [.ref 0, .int x1] [.int (μ 47 (am_ix (x1 - (am_c 1))))] μ)) := am_blk (b := [(.aload_n 0, 1), (.getfield 62, 3), (.getfield 269, 3), (.iload_n 1, 1), (.iconst 1, 1), (.isub, 1), (.iaload, 1)]) rfl rfl (rfl : am_z 923 = 0) _ _ _
set_option maxRecDepth 50000 in
theorem q923_47 (C : am_Ct) (x1 : Int32) (s0 : Int32) (μ : am_Mem) : am_ev C 923 47 [.ref 0, .int x1] [.int s0] μ = (am_ret (some (.int s0)) μ) := am_blk (b := [(.ireturn, 1)]) rfl rfl (rfl : am_z 923 = 0) _ _ _
theorem e923 (d : Nat) (x1 : Int32) (μ : am_Mem) : am_call (d + 1) 923 [.ref 0, .int x1] μ = am_ev (am_call d) 923 0 [.ref 0, .int x1] [] μ := rfl
/-! NoWordTwice.book(II)I  -/
set_option maxRecDepth 50000 in
theorem q924_0 (C : am_Ct) (x1 : Int32) (x2 : Int32) (μ : am_Mem) : am_ev C 924 0 [.ref 0, .int x1, .int x2] [] μ = (if x1 < 0 then am_ev C 924 24 [.ref 0, .int x1, .int x2] [] μ else if (μ 1 11) ≤ x1 then am_ev C 924 24 [.ref 0, .int x1, .int x2] [] μ else if x2 < 0 then am_ev C 924 24 [.ref 0, .int x1, .int x2] [] μ else if x2 < (am_c 4) then am_ev C 924 26 [.ref 0, .int x1, .int x2] [] μ else am_ev C 924 24 [.ref 0, .int x1, .int x2] [] μ) := am_blk (b := [(.iload_n 1, 1), (.ifCond .lt 23, 3), (.iload_n 1, 1), (.aload_n 0, 1), (.getfield 10, 3), (.getfield 272, 3), (.if_icmp .ge 12, 3), (.iload_n 2, 1), (.ifCond .lt 8, 3), (.iload_n 2, 1), (.iconst 4, 1), (.if_icmp .lt 5, 3)]) rfl rfl (rfl : am_z 924 = 0) _ _ _
set_option maxRecDepth 50000 in
theorem q924_24 (C : am_Ct) (x1 : Int32) (x2 : Int32) (μ : am_Mem) : am_ev C 924 24 [.ref 0, .int x1, .int x2] [] μ = (am_ret (some (.int (am_c (-1)))) μ) := am_blk (b := [(.iconst (-1), 1), (.ireturn, 1)]) rfl rfl (rfl : am_z 924 = 0) _ _ _
set_option maxRecDepth 50000 in
theorem q924_26 (C : am_Ct) (x1 : Int32) (x2 : Int32) (μ : am_Mem) : am_ev C 924 26 [.ref 0, .int x1, .int x2] [] μ = (am_gb (Nat.blt (am_ix ((x1 * (am_c 4)) + x2)) 320) (am_ret (some (.int (μ 6 (am_ix ((x1 * (am_c 4)) + x2))))) μ)) := am_blk (b := [(.aload_n 0, 1), (.getfield 10, 3), (.getfield 275, 3), (.iload_n 1, 1), (.iconst 4, 1), (.imul, 1), (.iload_n 2, 1), (.iadd, 1), (.iaload, 1), (.ireturn, 1)]) rfl rfl (rfl : am_z 924 = 0) _ _ _
theorem e924 (d : Nat) (x1 : Int32) (x2 : Int32) (μ : am_Mem) : am_call (d + 1) 924 [.ref 0, .int x1, .int x2] μ = am_ev (am_call d) 924 0 [.ref 0, .int x1, .int x2] [] μ := rfl
/-! NoWordTwice.undo()Z  -/
set_option maxRecDepth 50000 in
theorem q925_0 (C : am_Ct) (μ : am_Mem) : am_ev C 925 0 [.ref 0] [] μ = (if (μ 37 4) = 0 then am_ret (some (.int (am_c 0))) μ else am_ev C 925 12 [.ref 0] [] μ) := am_blk (b := [(.aload_n 0, 1), (.getfield 41, 3), (.getfield 278, 3), (.ifCond .ne 5, 3), (.iconst 0, 1), (.ireturn, 1)]) rfl rfl (rfl : am_z 925 = 2) _ _ _
set_option maxRecDepth 50000 in
theorem q925_12 (C : am_Ct) (μ : am_Mem) : am_ev C 925 12 [.ref 0] [] μ = (am_bV (C 403 [.ref 37, .ref 1] μ) (fun m1 => am_ret (some (.int (am_c 1))) m1)) := am_blk (b := [(.aload_n 0, 1), (.getfield 41, 3), (.aload_n 0, 1), (.getfield 10, 3), (.invokevirtual 281, 3), (.iconst 1, 1), (.ireturn, 1)]) rfl rfl (rfl : am_z 925 = 2) _ _ _
theorem e925 (d : Nat) (μ : am_Mem) : am_call (d + 1) 925 [.ref 0] μ = am_ev (am_call d) 925 0 [.ref 0] [] μ := rfl
/-! NoWordTwice.image(Z)Z  -/
set_option maxRecDepth 50000 in
theorem q926_0 (C : am_Ct) (x1 : Int32) (μ : am_Mem) : am_ev C 926 0 [.ref 0, .int x1] [] μ = (if x1 = 0 then am_ev C 926 22 [.ref 0, .int x1] [] μ else am_bV (C 701 [.ref 13, .ref 1] μ) (fun m1 => am_ret (some (.int (am_c 1))) (am_up m1 0 2 (am_c 1)))) := am_blk (b := [(.iload_n 1, 1), (.ifCond .eq 21, 3), (.aload_n 0, 1), (.getfield 16, 3), (.aload_n 0, 1), (.getfield 10, 3), (.invokevirtual 284, 3), (.aload_n 0, 1), (.iconst 1, 1), (.putfield 19, 3), (.iconst 1, 1), (.ireturn, 1)]) rfl rfl (rfl : am_z 926 = 2) _ _ _
set_option maxRecDepth 50000 in
theorem q926_22 (C : am_Ct) (x1 : Int32) (μ : am_Mem) : am_ev C 926 22 [.ref 0, .int x1] [] μ = (if (μ 0 2) = 0 then am_ret (some (.int (am_c 0))) μ else am_ev C 926 31 [.ref 0, .int x1] [] μ) := am_blk (b := [(.aload_n 0, 1), (.getfield 19, 3), (.ifCond .ne 5, 3), (.iconst 0, 1), (.ireturn, 1)]) rfl rfl (rfl : am_z 926 = 2) _ _ _
set_option maxRecDepth 50000 in
theorem q926_31 (C : am_Ct) (x1 : Int32) (μ : am_Mem) : am_ev C 926 31 [.ref 0, .int x1] [] μ = (am_bV (C 701 [.ref 1, .ref 13] μ) (fun m1 => am_bV (C 401 [.ref 37] m1) (fun m2 => am_ret (some (.int (am_c 1))) m2))) := am_blk (b := [(.aload_n 0, 1), (.getfield 10, 3), (.aload_n 0, 1), (.getfield 16, 3), (.invokevirtual 284, 3), (.aload_n 0, 1), (.getfield 41, 3), (.invokevirtual 76, 3), (.iconst 1, 1), (.ireturn, 1)]) rfl rfl (rfl : am_z 926 = 2) _ _ _
theorem e926 (d : Nat) (x1 : Int32) (μ : am_Mem) : am_call (d + 1) 926 [.ref 0, .int x1] μ = am_ev (am_call d) 926 0 [.ref 0, .int x1] [] μ := rfl
/-! NoWordTwice.look(I)I  -/
set_option maxRecDepth 50000 in
theorem q927_0 (C : am_Ct) (x1 : Int32) (μ : am_Mem) : am_ev C 927 0 [.ref 0, .int x1] [] μ = (if x1 = (am_c 0) then am_ev C 927 52 [.ref 0, .int x1] [] μ else if x1 = (am_c 1) then am_ev C 927 60 [.ref 0, .int x1] [] μ else if x1 = (am_c 2) then am_ev C 927 68 [.ref 0, .int x1] [] μ else if x1 = (am_c 3) then am_ev C 927 76 [.ref 0, .int x1] [] μ else if x1 = (am_c 4) then am_ev C 927 84 [.ref 0, .int x1] [] μ else if x1 = (am_c 5) then am_ev C 927 92 [.ref 0, .int x1] [] μ else if x1 = (am_c 6) then am_ev C 927 100 [.ref 0, .int x1] [] μ else if x1 = (am_c 7) then am_ev C 927 108 [.ref 0, .int x1] [] μ else if x1 = (am_c 8) then am_ev C 927 119 [.ref 0, .int x1] [] μ else am_ev C 927 127 [.ref 0, .int x1] [] μ) := am_blk (b := [(.iload_n 1, 1), (.tableswitch 126 0 8 #[51, 59, 67, 75, 83, 91, 99, 107, 118], 51)]) rfl rfl (rfl : am_z 927 = 0) _ _ _
set_option maxRecDepth 50000 in
theorem q927_52 (C : am_Ct) (x1 : Int32) (μ : am_Mem) : am_ev C 927 52 [.ref 0, .int x1] [] μ = (am_ret (some (.int (μ 1 4))) μ) := am_blk (b := [(.aload_n 0, 1), (.getfield 10, 3), (.getfield 79, 3), (.ireturn, 1)]) rfl rfl (rfl : am_z 927 = 0) _ _ _
set_option maxRecDepth 50000 in
theorem q927_60 (C : am_Ct) (x1 : Int32) (μ : am_Mem) : am_ev C 927 60 [.ref 0, .int x1] [] μ = (am_ret (some (.int (μ 1 7))) μ) := am_blk (b := [(.aload_n 0, 1), (.getfield 10, 3), (.getfield 103, 3), (.ireturn, 1)]) rfl rfl (rfl : am_z 927 = 0) _ _ _
set_option maxRecDepth 50000 in
theorem q927_68 (C : am_Ct) (x1 : Int32) (μ : am_Mem) : am_ev C 927 68 [.ref 0, .int x1] [] μ = (am_ret (some (.int (μ 1 1))) μ) := am_blk (b := [(.aload_n 0, 1), (.getfield 10, 3), (.getfield 286, 3), (.ireturn, 1)]) rfl rfl (rfl : am_z 927 = 0) _ _ _
set_option maxRecDepth 50000 in
theorem q927_76 (C : am_Ct) (x1 : Int32) (μ : am_Mem) : am_ev C 927 76 [.ref 0, .int x1] [] μ = (am_ret (some (.int (μ 1 2))) μ) := am_blk (b := [(.aload_n 0, 1), (.getfield 10, 3), (.getfield 289, 3), (.ireturn, 1)]) rfl rfl (rfl : am_z 927 = 0) _ _ _
set_option maxRecDepth 50000 in
theorem q927_84 (C : am_Ct) (x1 : Int32) (μ : am_Mem) : am_ev C 927 84 [.ref 0, .int x1] [] μ = (am_ret (some (.int (μ 1 3))) μ) := am_blk (b := [(.aload_n 0, 1), (.getfield 10, 3), (.getfield 156, 3), (.ireturn, 1)]) rfl rfl (rfl : am_z 927 = 0) _ _ _
set_option maxRecDepth 50000 in
theorem q927_92 (C : am_Ct) (x1 : Int32) (μ : am_Mem) : am_ev C 927 92 [.ref 0, .int x1] [] μ = (am_ret (some (.int (μ 1 11))) μ) := am_blk (b := [(.aload_n 0, 1), (.getfield 10, 3), (.getfield 272, 3), (.ireturn, 1)]) rfl rfl (rfl : am_z 927 = 0) _ _ _
set_option maxRecDepth 50000 in
theorem q927_100 (C : am_Ct) (x1 : Int32) (μ : am_Mem) : am_ev C 927 100 [.ref 0, .int x1] [] μ = (am_ret (some (.int (μ 1 0))) μ) := am_blk (b := [(.aload_n 0, 1), (.getfield 10, 3), (.getfield 73, 3), (.ireturn, 1)]) rfl rfl (rfl : am_z 927 = 0) _ _ _
set_option maxRecDepth 50000 in
theorem q927_108 (C : am_Ct) (x1 : Int32) (μ : am_Mem) : am_ev C 927 108 [.ref 0, .int x1] [] μ = (am_ret (some (.int (μ 7 0))) μ) := am_blk (b := [(.aload_n 0, 1), (.getfield 10, 3), (.getfield 136, 3), (.getfield 147, 3), (.ireturn, 1)]) rfl rfl (rfl : am_z 927 = 0) _ _ _
set_option maxRecDepth 50000 in
theorem q927_119 (C : am_Ct) (x1 : Int32) (μ : am_Mem) : am_ev C 927 119 [.ref 0, .int x1] [] μ = (am_ret (some (.int (μ 37 4))) μ) := am_blk (b := [(.aload_n 0, 1), (.getfield 41, 3), (.getfield 278, 3), (.ireturn, 1)]) rfl rfl (rfl : am_z 927 = 0) _ _ _
set_option maxRecDepth 50000 in
theorem q927_127 (C : am_Ct) (x1 : Int32) (μ : am_Mem) : am_ev C 927 127 [.ref 0, .int x1] [] μ = (am_ret (some (.int (am_c (-1)))) μ) := am_blk (b := [(.iconst (-1), 1), (.ireturn, 1)]) rfl rfl (rfl : am_z 927 = 0) _ _ _
theorem e927 (d : Nat) (x1 : Int32) (μ : am_Mem) : am_call (d + 1) 927 [.ref 0, .int x1] μ = am_ev (am_call d) 927 0 [.ref 0, .int x1] [] μ := rfl
/-! NoWordTwice.canBeMarks(I)Z  -/
set_option maxRecDepth 50000 in
theorem q928_0 (C : am_Ct) (x0 : Int32) (μ : am_Mem) : am_ev C 928 0 [.int x0] [] μ = (if x0 < (am_c 1) then am_ev C 928 16 [.int x0] [] μ else if (am_c 1023) < x0 then am_ev C 928 16 [.int x0] [] μ else am_ev C 928 17 [.int x0] [.int (am_c 1)] μ) := am_blk (b := [(.iload_n 0, 1), (.iconst 1, 1), (.if_icmp .lt 14, 3), (.iload_n 0, 1), (.sipush 1023, 3), (.if_icmp .gt 7, 3), (.iconst 1, 1), (.goto 4, 3)]) rfl rfl (rfl : am_z 928 = 2) _ _ _
set_option maxRecDepth 50000 in
theorem q928_16 (C : am_Ct) (x0 : Int32) (μ : am_Mem) : am_ev C 928 16 [.int x0] [] μ = (am_ev C 928 17 [.int x0] [.int (am_c 0)] μ) := am_blk (b := [(.iconst 0, 1)]) rfl rfl (rfl : am_z 928 = 2) _ _ _
set_option maxRecDepth 50000 in
theorem q928_17 (C : am_Ct) (x0 : Int32) (s0 : Int32) (μ : am_Mem) : am_ev C 928 17 [.int x0] [.int s0] μ = (am_gb (Nat.blt (am_ix s0) 2) (am_ret (some (.int s0)) μ)) := am_blk (b := [(.ireturn, 1)]) rfl rfl (rfl : am_z 928 = 2) _ _ _
theorem e928 (d : Nat) (x0 : Int32) (μ : am_Mem) : am_call (d + 1) 928 [.int x0] μ = am_ev (am_call d) 928 0 [.int x0] [] μ := rfl
/-! NoWordTwice.setLimit(I)Z  -/
set_option maxRecDepth 50000 in
theorem q929_0 (C : am_Ct) (x1 : Int32) (μ : am_Mem) : am_ev C 929 0 [.ref 0, .int x1] [] μ = (if x1 < (am_c 1) then am_ev C 929 10 [.ref 0, .int x1] [] μ else if x1 ≤ (am_c 3) then am_ev C 929 12 [.ref 0, .int x1] [] μ else am_ev C 929 10 [.ref 0, .int x1] [] μ) := am_blk (b := [(.iload_n 1, 1), (.iconst 1, 1), (.if_icmp .lt 8, 3), (.iload_n 1, 1), (.iconst 3, 1), (.if_icmp .le 5, 3)]) rfl rfl (rfl : am_z 929 = 2) _ _ _
set_option maxRecDepth 50000 in
theorem q929_10 (C : am_Ct) (x1 : Int32) (μ : am_Mem) : am_ev C 929 10 [.ref 0, .int x1] [] μ = (am_ret (some (.int (am_c 0))) μ) := am_blk (b := [(.iconst 0, 1), (.ireturn, 1)]) rfl rfl (rfl : am_z 929 = 2) _ _ _
set_option maxRecDepth 50000 in
theorem q929_12 (C : am_Ct) (x1 : Int32) (μ : am_Mem) : am_ev C 929 12 [.ref 0, .int x1] [] μ = (am_ret (some (.int (am_c 1))) (am_up μ 1 1 x1)) := am_blk (b := [(.aload_n 0, 1), (.getfield 10, 3), (.iload_n 1, 1), (.putfield 286, 3), (.iconst 1, 1), (.ireturn, 1)]) rfl rfl (rfl : am_z 929 = 2) _ _ _
theorem e929 (d : Nat) (x1 : Int32) (μ : am_Mem) : am_call (d + 1) 929 [.ref 0, .int x1] μ = am_ev (am_call d) 929 0 [.ref 0, .int x1] [] μ := rfl
/-! NoWordTwice.setChange(I)Z  -/
set_option maxRecDepth 50000 in
theorem q930_0 (C : am_Ct) (x1 : Int32) (μ : am_Mem) : am_ev C 930 0 [.ref 0, .int x1] [] μ = (if x1 < 0 then am_ev C 930 11 [.ref 0, .int x1] [] μ else if x1 ≤ (am_c 1000) then am_ev C 930 13 [.ref 0, .int x1] [] μ else am_ev C 930 11 [.ref 0, .int x1] [] μ) := am_blk (b := [(.iload_n 1, 1), (.ifCond .lt 10, 3), (.iload_n 1, 1), (.sipush 1000, 3), (.if_icmp .le 5, 3)]) rfl rfl (rfl : am_z 930 = 2) _ _ _
set_option maxRecDepth 50000 in
theorem q930_11 (C : am_Ct) (x1 : Int32) (μ : am_Mem) : am_ev C 930 11 [.ref 0, .int x1] [] μ = (am_ret (some (.int (am_c 0))) μ) := am_blk (b := [(.iconst 0, 1), (.ireturn, 1)]) rfl rfl (rfl : am_z 930 = 2) _ _ _
set_option maxRecDepth 50000 in
theorem q930_13 (C : am_Ct) (x1 : Int32) (μ : am_Mem) : am_ev C 930 13 [.ref 0, .int x1] [] μ = (am_ret (some (.int (am_c 1))) (am_up μ 1 2 x1)) := am_blk (b := [(.aload_n 0, 1), (.getfield 10, 3), (.iload_n 1, 1), (.putfield 289, 3), (.iconst 1, 1), (.ireturn, 1)]) rfl rfl (rfl : am_z 930 = 2) _ _ _
theorem e930 (d : Nat) (x1 : Int32) (μ : am_Mem) : am_call (d + 1) 930 [.ref 0, .int x1] μ = am_ev (am_call d) 930 0 [.ref 0, .int x1] [] μ := rfl
/-! NoWordTwice.setKnown(II)Z  -/
set_option maxRecDepth 50000 in
theorem q931_0 (C : am_Ct) (x1 : Int32) (x2 : Int32) (μ : am_Mem) : am_ev C 931 0 [.ref 0, .int x1, .int x2] [] μ = (am_bI (C 702 [.ref 1, .int x1] μ) (fun r1 m1 => if r1 = 0 then am_ev C 931 20 [.ref 0, .int x1, .int x2] [] m1 else if x2 < 0 then am_ev C 931 20 [.ref 0, .int x1, .int x2] [] m1 else if x2 ≤ (am_c 1) then am_ev C 931 22 [.ref 0, .int x1, .int x2] [] m1 else am_ev C 931 20 [.ref 0, .int x1, .int x2] [] m1)) := am_blk (b := [(.aload_n 0, 1), (.getfield 10, 3), (.iload_n 1, 1), (.invokevirtual 167, 3), (.ifCond .eq 12, 3), (.iload_n 2, 1), (.ifCond .lt 8, 3), (.iload_n 2, 1), (.iconst 1, 1), (.if_icmp .le 5, 3)]) rfl rfl (rfl : am_z 931 = 2) _ _ _
set_option maxRecDepth 50000 in
theorem q931_20 (C : am_Ct) (x1 : Int32) (x2 : Int32) (μ : am_Mem) : am_ev C 931 20 [.ref 0, .int x1, .int x2] [] μ = (am_ret (some (.int (am_c 0))) μ) := am_blk (b := [(.iconst 0, 1), (.ireturn, 1)]) rfl rfl (rfl : am_z 931 = 2) _ _ _
set_option maxRecDepth 50000 in
theorem q931_22 (C : am_Ct) (x1 : Int32) (x2 : Int32) (μ : am_Mem) : am_ev C 931 22 [.ref 0, .int x1, .int x2] [] μ = (am_ret (some (.int (am_c 1))) (am_up μ 1 6 (((μ 1 6) &&& ((((am_c 1) : Int32) <<< (x1 &&& 31)) ^^^ (am_c (-1)))) ||| (x2 <<< (x1 &&& 31))))) := am_blk (b := [(.aload_n 0, 1), (.getfield 10, 3), (.aload_n 0, 1), (.getfield 10, 3), (.getfield 170, 3), (.iconst 1, 1), (.iload_n 1, 1), (.ishl, 1), (.iconst (-1), 1), (.ixor, 1), (.iand, 1), (.iload_n 2, 1), (.iload_n 1, 1), (.ishl, 1), (.ior, 1), (.putfield 170, 3), (.iconst 1, 1), (.ireturn, 1)]) rfl rfl (rfl : am_z 931 = 2) _ _ _
theorem e931 (d : Nat) (x1 : Int32) (x2 : Int32) (μ : am_Mem) : am_call (d + 1) 931 [.ref 0, .int x1, .int x2] μ = am_ev (am_call d) 931 0 [.ref 0, .int x1, .int x2] [] μ := rfl
/-! NoWordTwice.setMarks(II)Z  -/
set_option maxRecDepth 50000 in
theorem q932_0 (C : am_Ct) (x1 : Int32) (x2 : Int32) (μ : am_Mem) : am_ev C 932 0 [.ref 0, .int x1, .int x2] [] μ = (am_bI (C 702 [.ref 1, .int x1] μ) (fun r1 m1 => if r1 = 0 then am_ev C 932 18 [.ref 0, .int x1, .int x2] [] m1 else am_bI (C 928 [.int x2] m1) (fun r2 m2 => if r2 = 0 then am_ev C 932 18 [.ref 0, .int x1, .int x2] [] m2 else am_ev C 932 20 [.ref 0, .int x1, .int x2] [] m2))) := am_blk (b := [(.aload_n 0, 1), (.getfield 10, 3), (.iload_n 1, 1), (.invokevirtual 167, 3), (.ifCond .eq 10, 3), (.iload_n 2, 1), (.invokestatic 82, 3), (.ifCond .ne 5, 3)]) rfl rfl (rfl : am_z 932 = 2) _ _ _
set_option maxRecDepth 50000 in
theorem q932_18 (C : am_Ct) (x1 : Int32) (x2 : Int32) (μ : am_Mem) : am_ev C 932 18 [.ref 0, .int x1, .int x2] [] μ = (am_ret (some (.int (am_c 0))) μ) := am_blk (b := [(.iconst 0, 1), (.ireturn, 1)]) rfl rfl (rfl : am_z 932 = 2) _ _ _
set_option maxRecDepth 50000 in
theorem q932_20 (C : am_Ct) (x1 : Int32) (x2 : Int32) (μ : am_Mem) : am_ev C 932 20 [.ref 0, .int x1, .int x2] [] μ = (am_gb (Nat.blt (am_ix x1) 16) (am_ret (some (.int (am_c 1))) (am_up μ 2 (am_ix x1) x2))) := am_blk (b := [(.aload_n 0, 1), (.getfield 10, 3), (.getfield 86, 3), (.iload_n 1, 1), (.iload_n 2, 1), (.iastore, 1), (.iconst 1, 1), (.ireturn, 1)]) rfl rfl (rfl : am_z 932 = 2) _ _ _
theorem e932 (d : Nat) (x1 : Int32) (x2 : Int32) (μ : am_Mem) : am_call (d + 1) 932 [.ref 0, .int x1, .int x2] μ = am_ev (am_call d) 932 0 [.ref 0, .int x1, .int x2] [] μ := rfl
/-! NoWordTwice.putBytes(I)V  -/
set_option maxRecDepth 50000 in
theorem q933_0 (C : am_Ct) (x1 : Int32) (x2 : Value) (μ : am_Mem) : am_ev C 933 0 [.ref 0, .int x1, x2] [] μ = (am_ev C 933 3 [.ref 0, .int x1, .int (am_c 24)] [] μ) := am_blk (b := [(.bipush 24, 2), (.istore_n 2, 1)]) rfl rfl (rfl : am_z 933 = 0) _ _ _
set_option maxRecDepth 50000 in
theorem q933_3 (C : am_Ct) (x1 : Int32) (x2 : Int32) (μ : am_Mem) : am_ev C 933 3 [.ref 0, .int x1, .int x2] [] μ = (if x2 < 0 then am_ev C 933 48 [.ref 0, .int x1, .int x2] [] μ else if 400 ≤ (μ 0 4) then am_ev C 933 48 [.ref 0, .int x1, .int x2] [] μ else am_gb (Nat.blt (am_ix (μ 0 4)) 400) (am_ev C 933 3 [.ref 0, .int x1, .int (x2 + (am_c (-8)))] [] (am_up (am_up μ 25 (am_ix (μ 0 4)) (am_nar 1 ((Int32.toInt8 (x1 >>> (x2 &&& 31))).toInt32))) 0 4 (((am_up μ 25 (am_ix (μ 0 4)) (am_nar 1 ((Int32.toInt8 (x1 >>> (x2 &&& 31))).toInt32))) 0 4) + (am_c 1))))) := am_blk (b := [(.iload_n 2, 1), (.ifCond .lt 44, 3), (.aload_n 0, 1), (.getfield 27, 3), (.aload_n 0, 1), (.getfield 23, 3), (.arraylength, 1), (.if_icmp .ge 32, 3), (.aload_n 0, 1), (.getfield 23, 3), (.aload_n 0, 1), (.getfield 27, 3), (.iload_n 1, 1), (.iload_n 2, 1), (.ishr, 1), (.i2b, 1), (.bastore, 1), (.aload_n 0, 1), (.dup, 1), (.getfield 27, 3), (.iconst 1, 1), (.iadd, 1), (.putfield 27, 3), (.iinc 2 (-8), 3), (.goto (-42), 3)]) rfl rfl (rfl : am_z 933 = 0) _ _ _
set_option maxRecDepth 50000 in
theorem q933_48 (C : am_Ct) (x1 : Int32) (x2 : Int32) (μ : am_Mem) : am_ev C 933 48 [.ref 0, .int x1, .int x2] [] μ = (am_ret none μ) := am_blk (b := [(.return_, 1)]) rfl rfl (rfl : am_z 933 = 0) _ _ _
theorem e933 (d : Nat) (x1 : Int32) (μ : am_Mem) : am_call (d + 1) 933 [.ref 0, .int x1] μ = am_ev (am_call d) 933 0 [.ref 0, .int x1, .null] [] μ := rfl
