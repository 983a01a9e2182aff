/-! the tables against the code: every block decodes as it stands there -/
def am_okI (pc : Nat) (i : Instr) (n : Nat) : Bool := match i with
  | .iconst k => Nat.beq n 1 && decide (Int32.ofInt k = am_c k)
  | .bipush k => Nat.beq n 2 && decide ((Int8.ofInt k).toInt32 = am_c k)
  | .sipush k => Nat.beq n 3 && decide ((Int16.ofInt k).toInt32 = am_c k)
  | .ldc _ => Nat.beq n 2
  | .ldc_w _ => Nat.beq n 3
  | .iload_n _ => Nat.beq n 1
  | .iload _ => Nat.beq n 2
  | .aload_n _ => Nat.beq n 1
  | .istore_n _ => Nat.beq n 1
  | .istore _ => Nat.beq n 2
  | .iinc _ k => Nat.beq n 3 && decide (Int32.ofInt k = am_c k)
  | .getfield _ => Nat.beq n 3
  | .putfield _ => Nat.beq n 3
  | .getstatic _ => Nat.beq n 3
  | .goto off => decide (0 ≤ (pc : Int) + off) && Nat.beq n 3
  | .ifCond _ off => decide (0 ≤ (pc : Int) + off) && Nat.beq n 3
  | .if_icmp _ off => decide (0 ≤ (pc : Int) + off) && Nat.beq n 3
  | .tableswitch d lo hi offs => decide (0 ≤ (pc : Int) + d) && decide (hi + 1 = lo + offs.toList.length) && decide (-1000 ≤ lo) && decide (hi ≤ 1000) && offs.toList.all (fun o => decide (0 ≤ (pc : Int) + o))
  | .lookupswitch d ps => decide (0 ≤ (pc : Int) + d) && (ps.toList.zip (ps.toList.drop 1)).all (fun (a, next) => a.1 < next.1) && ps.toList.all (fun o => decide (0 ≤ (pc : Int) + o.2) && decide (-1000 ≤ o.1) && decide (o.1 ≤ 1000))
  | .invokevirtual _ => Nat.beq n 3
  | .invokestatic _ => Nat.beq n 3
  | _ => Nat.beq n 1
def am_chk (cc : ByteArray) : Nat → List (Instr × Nat) → Bool
  | _, [] => true
  | pc, q :: r => (decide (decode cc pc = .ok (q.1, q.2)) && am_okI pc q.1 q.2) && am_chk cc (pc + q.2) r
def am_chkM (cc : ByteArray) (l : List (Nat × List (Instr × Nat))) : Bool := l.all (fun q => am_chk cc q.1 q.2)
def am_cd (y : Nat) : ByteArray := match am_fa am_MT y with
  | some q => q.2.1
  | none => code
theorem am_k1 : am_chkM (am_cd 1) am_b1 = true := by decide +kernel
theorem am_k2 : am_chkM (am_cd 2) am_b2 = true := by decide +kernel
theorem am_k3 : am_chkM (am_cd 3) am_b3 = true := by decide +kernel
theorem am_k4 : am_chkM (am_cd 4) am_b4 = true := by decide +kernel
theorem am_k5 : am_chkM (am_cd 5) am_b5 = true := by decide +kernel
theorem am_k101 : am_chkM (am_cd 101) am_b101 = true := by decide +kernel
theorem am_k102 : am_chkM (am_cd 102) am_b102 = true := by decide +kernel
theorem am_k103 : am_chkM (am_cd 103) am_b103 = true := by decide +kernel
theorem am_k104 : am_chkM (am_cd 104) am_b104 = true := by decide +kernel
theorem am_k201 : am_chkM (am_cd 201) am_b201 = true := by decide +kernel
theorem am_k202 : am_chkM (am_cd 202) am_b202 = true := by decide +kernel
theorem am_k203 : am_chkM (am_cd 203) am_b203 = true := by decide +kernel
theorem am_k204 : am_chkM (am_cd 204) am_b204 = true := by decide +kernel
theorem am_k205 : am_chkM (am_cd 205) am_b205 = true := by decide +kernel
theorem am_k206 : am_chkM (am_cd 206) am_b206 = true := by decide +kernel
theorem am_k207 : am_chkM (am_cd 207) am_b207 = true := by decide +kernel
theorem am_k208 : am_chkM (am_cd 208) am_b208 = true := by decide +kernel
theorem am_k209 : am_chkM (am_cd 209) am_b209 = true := by decide +kernel
theorem am_k210 : am_chkM (am_cd 210) am_b210 = true := by decide +kernel
theorem am_k211 : am_chkM (am_cd 211) am_b211 = true := by decide +kernel
theorem am_k301 : am_chkM (am_cd 301) am_b301 = true := by decide +kernel
theorem am_k302 : am_chkM (am_cd 302) am_b302 = true := by decide +kernel
theorem am_k303 : am_chkM (am_cd 303) am_b303 = true := by decide +kernel
theorem am_k304 : am_chkM (am_cd 304) am_b304 = true := by decide +kernel
theorem am_k305 : am_chkM (am_cd 305) am_b305 = true := by decide +kernel
theorem am_k306 : am_chkM (am_cd 306) am_b306 = true := by decide +kernel
theorem am_k307 : am_chkM (am_cd 307) am_b307 = true := by decide +kernel
theorem am_k308 : am_chkM (am_cd 308) am_b308 = true := by decide +kernel
theorem am_k309 : am_chkM (am_cd 309) am_b309 = true := by decide +kernel
theorem am_k310 : am_chkM (am_cd 310) am_b310 = true := by decide +kernel
theorem am_k311 : am_chkM (am_cd 311) am_b311 = true := by decide +kernel
theorem am_k401 : am_chkM (am_cd 401) am_b401 = true := by decide +kernel
theorem am_k402 : am_chkM (am_cd 402) am_b402 = true := by decide +kernel
theorem am_k403 : am_chkM (am_cd 403) am_b403 = true := by decide +kernel
theorem am_k501 : am_chkM (am_cd 501) am_b501 = true := by decide +kernel
theorem am_k502 : am_chkM (am_cd 502) am_b502 = true := by decide +kernel
theorem am_k503 : am_chkM (am_cd 503) am_b503 = true := by decide +kernel
theorem am_k504 : am_chkM (am_cd 504) am_b504 = true := by decide +kernel
theorem am_k505 : am_chkM (am_cd 505) am_b505 = true := by decide +kernel
theorem am_k506 : am_chkM (am_cd 506) am_b506 = true := by decide +kernel
theorem am_k507 : am_chkM (am_cd 507) am_b507 = true := by decide +kernel
theorem am_k508 : am_chkM (am_cd 508) am_b508 = true := by decide +kernel
theorem am_k509 : am_chkM (am_cd 509) am_b509 = true := by decide +kernel
theorem am_k510 : am_chkM (am_cd 510) am_b510 = true := by decide +kernel
theorem am_k511 : am_chkM (am_cd 511) am_b511 = true := by decide +kernel
theorem am_k601 : am_chkM (am_cd 601) am_b601 = true := by decide +kernel
theorem am_k602 : am_chkM (am_cd 602) am_b602 = true := by decide +kernel
theorem am_k603 : am_chkM (am_cd 603) am_b603 = true := by decide +kernel
theorem am_k604 : am_chkM (am_cd 604) am_b604 = true := by decide +kernel
theorem am_k605 : am_chkM (am_cd 605) am_b605 = true := by decide +kernel
theorem am_k606 : am_chkM (am_cd 606) am_b606 = true := by decide +kernel
theorem am_k607 : am_chkM (am_cd 607) am_b607 = true := by decide +kernel
theorem am_k608 : am_chkM (am_cd 608) am_b608 = true := by decide +kernel
theorem am_k609 : am_chkM (am_cd 609) am_b609 = true := by decide +kernel
theorem am_k610 : am_chkM (am_cd 610) am_b610 = true := by decide +kernel
theorem am_k611 : am_chkM (am_cd 611) am_b611 = true := by decide +kernel
theorem am_k701 : am_chkM (am_cd 701) am_b701 = true := by decide +kernel
theorem am_k702 : am_chkM (am_cd 702) am_b702 = true := by decide +kernel
theorem am_k703 : am_chkM (am_cd 703) am_b703 = true := by decide +kernel
theorem am_k704 : am_chkM (am_cd 704) am_b704 = true := by decide +kernel
theorem am_k705 : am_chkM (am_cd 705) am_b705 = true := by decide +kernel
theorem am_k706 : am_chkM (am_cd 706) am_b706 = true := by decide +kernel
theorem am_k707 : am_chkM (am_cd 707) am_b707 = true := by decide +kernel
theorem am_k708 : am_chkM (am_cd 708) am_b708 = true := by decide +kernel
theorem am_k709 : am_chkM (am_cd 709) am_b709 = true := by decide +kernel
theorem am_k710 : am_chkM (am_cd 710) am_b710 = true := by decide +kernel
theorem am_k711 : am_chkM (am_cd 711) am_b711 = true := by decide +kernel
theorem am_k712 : am_chkM (am_cd 712) am_b712 = true := by decide +kernel
theorem am_k713 : am_chkM (am_cd 713) am_b713 = true := by decide +kernel
theorem am_k714 : am_chkM (am_cd 714) am_b714 = true := by decide +kernel
theorem am_k715 : am_chkM (am_cd 715) am_b715 = true := by decide +kernel
theorem am_k716 : am_chkM (am_cd 716) am_b716 = true := by decide +kernel
theorem am_k717 : am_chkM (am_cd 717) am_b717 = true := by decide +kernel
theorem am_k718 : am_chkM (am_cd 718) am_b718 = true := by decide +kernel
theorem am_k719 : am_chkM (am_cd 719) am_b719 = true := by decide +kernel
theorem am_k720 : am_chkM (am_cd 720) am_b720 = true := by decide +kernel
theorem am_k721 : am_chkM (am_cd 721) am_b721 = true := by decide +kernel
theorem am_k722 : am_chkM (am_cd 722) am_b722 = true := by decide +kernel
theorem am_k723 : am_chkM (am_cd 723) am_b723 = true := by decide +kernel
theorem am_k724 : am_chkM (am_cd 724) am_b724 = true := by decide +kernel
theorem am_k725 : am_chkM (am_cd 725) am_b725 = true := by decide +kernel
theorem am_k801 : am_chkM (am_cd 801) am_b801 = true := by decide +kernel
theorem am_k802 : am_chkM (am_cd 802) am_b802 = true := by decide +kernel
theorem am_k803 : am_chkM (am_cd 803) am_b803 = true := by decide +kernel
theorem am_k804 : am_chkM (am_cd 804) am_b804 = true := by decide +kernel
theorem am_k901 : am_chkM (am_cd 901) am_b901 = true := by decide +kernel
theorem am_k902 : am_chkM (am_cd 902) am_b902 = true := by decide +kernel
theorem am_k903 : am_chkM (am_cd 903) am_b903 = true := by decide +kernel
theorem am_k904 : am_chkM (am_cd 904) am_b904 = true := by decide +kernel
theorem am_k905 : am_chkM (am_cd 905) am_b905 = true := by decide +kernel
theorem am_k906 : am_chkM (am_cd 906) am_b906 = true := by decide +kernel
theorem am_k907 : am_chkM (am_cd 907) am_b907 = true := by decide +kernel
theorem am_k908 : am_chkM (am_cd 908) am_b908 = true := by decide +kernel
theorem am_k909 : am_chkM (am_cd 909) am_b909 = true := by decide +kernel
theorem am_k910 : am_chkM (am_cd 910) am_b910 = true := by decide +kernel
theorem am_k911 : am_chkM (am_cd 911) am_b911 = true := by decide +kernel
theorem am_k912 : am_chkM (am_cd 912) am_b912 = true := by decide +kernel
theorem am_k913 : am_chkM (am_cd 913) am_b913 = true := by decide +kernel
theorem am_k914 : am_chkM (am_cd 914) am_b914 = true := by decide +kernel
theorem am_k915 : am_chkM (am_cd 915) am_b915 = true := by decide +kernel
theorem am_k916 : am_chkM (am_cd 916) am_b916 = true := by decide +kernel
theorem am_k917 : am_chkM (am_cd 917) am_b917 = true := by decide +kernel
theorem am_k918 : am_chkM (am_cd 918) am_b918 = true := by decide +kernel
theorem am_k919 : am_chkM (am_cd 919) am_b919 = true := by decide +kernel
theorem am_k920 : am_chkM (am_cd 920) am_b920 = true := by decide +kernel
theorem am_k921 : am_chkM (am_cd 921) am_b921 = true := by decide +kernel
theorem am_k922 : am_chkM (am_cd 922) am_b922 = true := by decide +kernel
theorem am_k923 : am_chkM (am_cd 923) am_b923 = true := by decide +kernel
theorem am_k924 : am_chkM (am_cd 924) am_b924 = true := by decide +kernel
theorem am_k925 : am_chkM (am_cd 925) am_b925 = true := by decide +kernel
theorem am_k926 : am_chkM (am_cd 926) am_b926 = true := by decide +kernel
theorem am_k927 : am_chkM (am_cd 927) am_b927 = true := by decide +kernel
theorem am_k928 : am_chkM (am_cd 928) am_b928 = true := by decide +kernel
theorem am_k929 : am_chkM (am_cd 929) am_b929 = true := by decide +kernel
theorem am_k930 : am_chkM (am_cd 930) am_b930 = true := by decide +kernel
theorem am_k931 : am_chkM (am_cd 931) am_b931 = true := by decide +kernel
theorem am_k932 : am_chkM (am_cd 932) am_b932 = true := by decide +kernel
theorem am_k933 : am_chkM (am_cd 933) am_b933 = true := by decide +kernel
theorem am_k1001 : am_chkM (am_cd 1001) am_b1001 = true := by decide +kernel
theorem am_k1002 : am_chkM (am_cd 1002) am_b1002 = true := by decide +kernel
theorem am_k1003 : am_chkM (am_cd 1003) am_b1003 = true := by decide +kernel
theorem am_k1004 : am_chkM (am_cd 1004) am_b1004 = true := by decide +kernel
theorem am_k1005 : am_chkM (am_cd 1005) am_b1005 = true := by decide +kernel
theorem am_k1006 : am_chkM (am_cd 1006) am_b1006 = true := by decide +kernel
theorem am_k1007 : am_chkM (am_cd 1007) am_b1007 = true := by decide +kernel
theorem am_k1008 : am_chkM (am_cd 1008) am_b1008 = true := by decide +kernel
theorem am_k1009 : am_chkM (am_cd 1009) am_b1009 = true := by decide +kernel
theorem am_k1010 : am_chkM (am_cd 1010) am_b1010 = true := by decide +kernel
theorem am_k1011 : am_chkM (am_cd 1011) am_b1011 = true := by decide +kernel
theorem am_k1012 : am_chkM (am_cd 1012) am_b1012 = true := by decide +kernel
theorem am_k1013 : am_chkM (am_cd 1013) am_b1013 = true := by decide +kernel
theorem am_k1014 : am_chkM (am_cd 1014) am_b1014 = true := by decide +kernel
theorem am_k1015 : am_chkM (am_cd 1015) am_b1015 = true := by decide +kernel
theorem am_k1016 : am_chkM (am_cd 1016) am_b1016 = true := by decide +kernel
theorem am_k1017 : am_chkM (am_cd 1017) am_b1017 = true := by decide +kernel
theorem am_k1018 : am_chkM (am_cd 1018) am_b1018 = true := by decide +kernel
theorem am_k1019 : am_chkM (am_cd 1019) am_b1019 = true := by decide +kernel
theorem am_k1020 : am_chkM (am_cd 1020) am_b1020 = true := by decide +kernel
theorem am_k1021 : am_chkM (am_cd 1021) am_b1021 = true := by decide +kernel
theorem am_k1022 : am_chkM (am_cd 1022) am_b1022 = true := by decide +kernel
theorem am_k1023 : am_chkM (am_cd 1023) am_b1023 = true := by decide +kernel
theorem am_k1024 : am_chkM (am_cd 1024) am_b1024 = true := by decide +kernel
theorem am_k1025 : am_chkM (am_cd 1025) am_b1025 = true := by decide +kernel
theorem am_k1026 : am_chkM (am_cd 1026) am_b1026 = true := by decide +kernel
theorem am_k1027 : am_chkM (am_cd 1027) am_b1027 = true := by decide +kernel
theorem am_k1028 : am_chkM (am_cd 1028) am_b1028 = true := by decide +kernel
theorem am_k1029 : am_chkM (am_cd 1029) am_b1029 = true := by decide +kernel
theorem am_k1030 : am_chkM (am_cd 1030) am_b1030 = true := by decide +kernel
theorem am_k1031 : am_chkM (am_cd 1031) am_b1031 = true := by decide +kernel
theorem am_k1032 : am_chkM (am_cd 1032) am_b1032 = true := by decide +kernel
theorem am_k1033 : am_chkM (am_cd 1033) am_b1033 = true := by decide +kernel
theorem am_k1034 : am_chkM (am_cd 1034) am_b1034 = true := by decide +kernel
theorem am_k1035 : am_chkM (am_cd 1035) am_b1035 = true := by decide +kernel
theorem am_k1036 : am_chkM (am_cd 1036) am_b1036 = true := by decide +kernel
theorem am_k1037 : am_chkM (am_cd 1037) am_b1037 = true := by decide +kernel
theorem am_k1038 : am_chkM (am_cd 1038) am_b1038 = true := by decide +kernel
theorem am_k1039 : am_chkM (am_cd 1039) am_b1039 = true := by decide +kernel
theorem am_k1040 : am_chkM (am_cd 1040) am_b1040 = true := by decide +kernel
theorem am_k1041 : am_chkM (am_cd 1041) am_b1041 = true := by decide +kernel
theorem am_k1042 : am_chkM (am_cd 1042) am_b1042 = true := by decide +kernel
theorem am_k1043 : am_chkM (am_cd 1043) am_b1043 = true := by decide +kernel
theorem am_k1044 : am_chkM (am_cd 1044) am_b1044 = true := by decide +kernel
theorem am_k1045 : am_chkM (am_cd 1045) am_b1045 = true := by decide +kernel
theorem am_k1046 : am_chkM (am_cd 1046) am_b1046 = true := by decide +kernel
theorem am_k1047 : am_chkM (am_cd 1047) am_b1047 = true := by decide +kernel
theorem am_k1048 : am_chkM (am_cd 1048) am_b1048 = true := by decide +kernel
theorem am_k1049 : am_chkM (am_cd 1049) am_b1049 = true := by decide +kernel
theorem am_k1050 : am_chkM (am_cd 1050) am_b1050 = true := by decide +kernel
theorem am_k1051 : am_chkM (am_cd 1051) am_b1051 = true := by decide +kernel
theorem am_k1052 : am_chkM (am_cd 1052) am_b1052 = true := by decide +kernel
theorem am_k1053 : am_chkM (am_cd 1053) am_b1053 = true := by decide +kernel
theorem am_k1054 : am_chkM (am_cd 1054) am_b1054 = true := by decide +kernel
theorem am_k1055 : am_chkM (am_cd 1055) am_b1055 = true := by decide +kernel
theorem am_k1056 : am_chkM (am_cd 1056) am_b1056 = true := by decide +kernel
theorem am_k1057 : am_chkM (am_cd 1057) am_b1057 = true := by decide +kernel
theorem am_k1058 : am_chkM (am_cd 1058) am_b1058 = true := by decide +kernel
theorem am_k1059 : am_chkM (am_cd 1059) am_b1059 = true := by decide +kernel
theorem am_k1060 : am_chkM (am_cd 1060) am_b1060 = true := by decide +kernel
theorem am_k1061 : am_chkM (am_cd 1061) am_b1061 = true := by decide +kernel
theorem am_k1062 : am_chkM (am_cd 1062) am_b1062 = true := by decide +kernel
theorem am_k1063 : am_chkM (am_cd 1063) am_b1063 = true := by decide +kernel
theorem am_k1064 : am_chkM (am_cd 1064) am_b1064 = true := by decide +kernel
theorem am_k1065 : am_chkM (am_cd 1065) am_b1065 = true := by decide +kernel
theorem am_k1066 : am_chkM (am_cd 1066) am_b1066 = true := by decide +kernel
theorem am_k1067 : am_chkM (am_cd 1067) am_b1067 = true := by decide +kernel
theorem am_k1068 : am_chkM (am_cd 1068) am_b1068 = true := by decide +kernel
theorem am_k1069 : am_chkM (am_cd 1069) am_b1069 = true := by decide +kernel
theorem am_k1070 : am_chkM (am_cd 1070) am_b1070 = true := by decide +kernel
theorem am_k1071 : am_chkM (am_cd 1071) am_b1071 = true := by decide +kernel
theorem am_k1072 : am_chkM (am_cd 1072) am_b1072 = true := by decide +kernel
theorem am_k1073 : am_chkM (am_cd 1073) am_b1073 = true := by decide +kernel
theorem am_k1074 : am_chkM (am_cd 1074) am_b1074 = true := by decide +kernel
theorem am_k1075 : am_chkM (am_cd 1075) am_b1075 = true := by decide +kernel
theorem am_k1076 : am_chkM (am_cd 1076) am_b1076 = true := by decide +kernel
theorem am_k1077 : am_chkM (am_cd 1077) am_b1077 = true := by decide +kernel
theorem am_k1078 : am_chkM (am_cd 1078) am_b1078 = true := by decide +kernel
theorem am_k1079 : am_chkM (am_cd 1079) am_b1079 = true := by decide +kernel
theorem am_k1100 : am_chkM (am_cd 1100) am_b1100 = true := by decide +kernel
theorem am_k1200 : am_chkM (am_cd 1200) am_b1200 = true := by decide +kernel
theorem am_k1300 : am_chkM (am_cd 1300) am_b1300 = true := by decide +kernel
theorem am_k1400 : am_chkM (am_cd 1400) am_b1400 = true := by decide +kernel
theorem am_k1401 : am_chkM (am_cd 1401) am_b1401 = true := by decide +kernel
theorem am_k1402 : am_chkM (am_cd 1402) am_b1402 = true := by decide +kernel
theorem am_k1403 : am_chkM (am_cd 1403) am_b1403 = true := by decide +kernel
theorem am_k1404 : am_chkM (am_cd 1404) am_b1404 = true := by decide +kernel
theorem am_k1500 : am_chkM (am_cd 1500) am_b1500 = true := by decide +kernel
theorem am_k1600 : am_chkM (am_cd 1600) am_b1600 = true := by decide +kernel
set_option maxRecDepth 100000 in
theorem am_BT_ok : ∀ q ∈ am_BT, am_chkM (am_cd q.1) q.2 = true := List.forall_mem_cons.mpr ⟨am_k1, List.forall_mem_cons.mpr ⟨am_k2, List.forall_mem_cons.mpr ⟨am_k3, List.forall_mem_cons.mpr ⟨am_k4, List.forall_mem_cons.mpr ⟨am_k5, List.forall_mem_cons.mpr ⟨am_k101, List.forall_mem_cons.mpr ⟨am_k102, List.forall_mem_cons.mpr ⟨am_k103, List.forall_mem_cons.mpr ⟨am_k104, List.forall_mem_cons.mpr ⟨am_k201, List.forall_mem_cons.mpr ⟨am_k202, List.forall_mem_cons.mpr ⟨am_k203, List.forall_mem_cons.mpr ⟨am_k204, List.forall_mem_cons.mpr ⟨am_k205, List.forall_mem_cons.mpr ⟨am_k206, List.forall_mem_cons.mpr ⟨am_k207, List.forall_mem_cons.mpr ⟨am_k208, List.forall_mem_cons.mpr ⟨am_k209, List.forall_mem_cons.mpr ⟨am_k210, List.forall_mem_cons.mpr ⟨am_k211, List.forall_mem_cons.mpr ⟨am_k301, List.forall_mem_cons.mpr ⟨am_k302, List.forall_mem_cons.mpr ⟨am_k303, List.forall_mem_cons.mpr ⟨am_k304, List.forall_mem_cons.mpr ⟨am_k305, List.forall_mem_cons.mpr ⟨am_k306, List.forall_mem_cons.mpr ⟨am_k307, List.forall_mem_cons.mpr ⟨am_k308, List.forall_mem_cons.mpr ⟨am_k309, List.forall_mem_cons.mpr ⟨am_k310, List.forall_mem_cons.mpr ⟨am_k311, List.forall_mem_cons.mpr ⟨am_k401, List.forall_mem_cons.mpr ⟨am_k402, List.forall_mem_cons.mpr ⟨am_k403, List.forall_mem_cons.mpr ⟨am_k501, List.forall_mem_cons.mpr ⟨am_k502, List.forall_mem_cons.mpr ⟨am_k503, List.forall_mem_cons.mpr ⟨am_k504, List.forall_mem_cons.mpr ⟨am_k505, List.forall_mem_cons.mpr ⟨am_k506, List.forall_mem_cons.mpr ⟨am_k507, List.forall_mem_cons.mpr ⟨am_k508, List.forall_mem_cons.mpr ⟨am_k509, List.forall_mem_cons.mpr ⟨am_k510, List.forall_mem_cons.mpr ⟨am_k511, List.forall_mem_cons.mpr ⟨am_k601, List.forall_mem_cons.mpr ⟨am_k602, List.forall_mem_cons.mpr ⟨am_k603, List.forall_mem_cons.mpr ⟨am_k604, List.forall_mem_cons.mpr ⟨am_k605, List.forall_mem_cons.mpr ⟨am_k606, List.forall_mem_cons.mpr ⟨am_k607, List.forall_mem_cons.mpr ⟨am_k608, List.forall_mem_cons.mpr ⟨am_k609, List.forall_mem_cons.mpr ⟨am_k610, List.forall_mem_cons.mpr ⟨am_k611, List.forall_mem_cons.mpr ⟨am_k701, List.forall_mem_cons.mpr ⟨am_k702, List.forall_mem_cons.mpr ⟨am_k703, List.forall_mem_cons.mpr ⟨am_k704, List.forall_mem_cons.mpr ⟨am_k705, List.forall_mem_cons.mpr ⟨am_k706, List.forall_mem_cons.mpr ⟨am_k707, List.forall_mem_cons.mpr ⟨am_k708, List.forall_mem_cons.mpr ⟨am_k709, List.forall_mem_cons.mpr ⟨am_k710, List.forall_mem_cons.mpr ⟨am_k711, List.forall_mem_cons.mpr ⟨am_k712, List.forall_mem_cons.mpr ⟨am_k713, List.forall_mem_cons.mpr ⟨am_k714, List.forall_mem_cons.mpr ⟨am_k715, List.forall_mem_cons.mpr ⟨am_k716, List.forall_mem_cons.mpr ⟨am_k717, List.forall_mem_cons.mpr ⟨am_k718, List.forall_mem_cons.mpr ⟨am_k719, List.forall_mem_cons.mpr ⟨am_k720, List.forall_mem_cons.mpr ⟨am_k721, List.forall_mem_cons.mpr ⟨am_k722, List.forall_mem_cons.mpr ⟨am_k723, List.forall_mem_cons.mpr ⟨am_k724, List.forall_mem_cons.mpr ⟨am_k725, List.forall_mem_cons.mpr ⟨am_k801, List.forall_mem_cons.mpr ⟨am_k802, List.forall_mem_cons.mpr ⟨am_k803, List.forall_mem_cons.mpr ⟨am_k804, List.forall_mem_cons.mpr ⟨am_k901, List.forall_mem_cons.mpr ⟨am_k902, List.forall_mem_cons.mpr ⟨am_k903, List.forall_mem_cons.mpr ⟨am_k904, List.forall_mem_cons.mpr ⟨am_k905, List.forall_mem_cons.mpr ⟨am_k906, List.forall_mem_cons.mpr ⟨am_k907, List.forall_mem_cons.mpr ⟨am_k908, List.forall_mem_cons.mpr ⟨am_k909, List.forall_mem_cons.mpr ⟨am_k910, List.forall_mem_cons.mpr ⟨am_k911, List.forall_mem_cons.mpr ⟨am_k912, List.forall_mem_cons.mpr ⟨am_k913, List.forall_mem_cons.mpr ⟨am_k914, List.forall_mem_cons.mpr ⟨am_k915, List.forall_mem_cons.mpr ⟨am_k916, List.forall_mem_cons.mpr ⟨am_k917, List.forall_mem_cons.mpr ⟨am_k918, List.forall_mem_cons.mpr ⟨am_k919, List.forall_mem_cons.mpr ⟨am_k920, List.forall_mem_cons.mpr ⟨am_k921, List.forall_mem_cons.mpr ⟨am_k922, List.forall_mem_cons.mpr ⟨am_k923, List.forall_mem_cons.mpr ⟨am_k924, List.forall_mem_cons.mpr ⟨am_k925, List.forall_mem_cons.mpr ⟨am_k926, List.forall_mem_cons.mpr ⟨am_k927, List.forall_mem_cons.mpr ⟨am_k928, List.forall_mem_cons.mpr ⟨am_k929, List.forall_mem_cons.mpr ⟨am_k930, List.forall_mem_cons.mpr ⟨am_k931, List.forall_mem_cons.mpr ⟨am_k932, List.forall_mem_cons.mpr ⟨am_k933, List.forall_mem_cons.mpr ⟨am_k1001, List.forall_mem_cons.mpr ⟨am_k1002, List.forall_mem_cons.mpr ⟨am_k1003, List.forall_mem_cons.mpr ⟨am_k1004, List.forall_mem_cons.mpr ⟨am_k1005, List.forall_mem_cons.mpr ⟨am_k1006, List.forall_mem_cons.mpr ⟨am_k1007, List.forall_mem_cons.mpr ⟨am_k1008, List.forall_mem_cons.mpr ⟨am_k1009, List.forall_mem_cons.mpr ⟨am_k1010, List.forall_mem_cons.mpr ⟨am_k1011, List.forall_mem_cons.mpr ⟨am_k1012, List.forall_mem_cons.mpr ⟨am_k1013, List.forall_mem_cons.mpr ⟨am_k1014, List.forall_mem_cons.mpr ⟨am_k1015, List.forall_mem_cons.mpr ⟨am_k1016, List.forall_mem_cons.mpr ⟨am_k1017, List.forall_mem_cons.mpr ⟨am_k1018, List.forall_mem_cons.mpr ⟨am_k1019, List.forall_mem_cons.mpr ⟨am_k1020, List.forall_mem_cons.mpr ⟨am_k1021, List.forall_mem_cons.mpr ⟨am_k1022, List.forall_mem_cons.mpr ⟨am_k1023, List.forall_mem_cons.mpr ⟨am_k1024, List.forall_mem_cons.mpr ⟨am_k1025, List.forall_mem_cons.mpr ⟨am_k1026, List.forall_mem_cons.mpr ⟨am_k1027, List.forall_mem_cons.mpr ⟨am_k1028, List.forall_mem_cons.mpr ⟨am_k1029, List.forall_mem_cons.mpr ⟨am_k1030, List.forall_mem_cons.mpr ⟨am_k1031, List.forall_mem_cons.mpr ⟨am_k1032, List.forall_mem_cons.mpr ⟨am_k1033, List.forall_mem_cons.mpr ⟨am_k1034, List.forall_mem_cons.mpr ⟨am_k1035, List.forall_mem_cons.mpr ⟨am_k1036, List.forall_mem_cons.mpr ⟨am_k1037, List.forall_mem_cons.mpr ⟨am_k1038, List.forall_mem_cons.mpr ⟨am_k1039, List.forall_mem_cons.mpr ⟨am_k1040, List.forall_mem_cons.mpr ⟨am_k1041, List.forall_mem_cons.mpr ⟨am_k1042, List.forall_mem_cons.mpr ⟨am_k1043, List.forall_mem_cons.mpr ⟨am_k1044, List.forall_mem_cons.mpr ⟨am_k1045, List.forall_mem_cons.mpr ⟨am_k1046, List.forall_mem_cons.mpr ⟨am_k1047, List.forall_mem_cons.mpr ⟨am_k1048, List.forall_mem_cons.mpr ⟨am_k1049, List.forall_mem_cons.mpr ⟨am_k1050, List.forall_mem_cons.mpr ⟨am_k1051, List.forall_mem_cons.mpr ⟨am_k1052, List.forall_mem_cons.mpr ⟨am_k1053, List.forall_mem_cons.mpr ⟨am_k1054, List.forall_mem_cons.mpr ⟨am_k1055, List.forall_mem_cons.mpr ⟨am_k1056, List.forall_mem_cons.mpr ⟨am_k1057, List.forall_mem_cons.mpr ⟨am_k1058, List.forall_mem_cons.mpr ⟨am_k1059, List.forall_mem_cons.mpr ⟨am_k1060, List.forall_mem_cons.mpr ⟨am_k1061, List.forall_mem_cons.mpr ⟨am_k1062, List.forall_mem_cons.mpr ⟨am_k1063, List.forall_mem_cons.mpr ⟨am_k1064, List.forall_mem_cons.mpr ⟨am_k1065, List.forall_mem_cons.mpr ⟨am_k1066, List.forall_mem_cons.mpr ⟨am_k1067, List.forall_mem_cons.mpr ⟨am_k1068, List.forall_mem_cons.mpr ⟨am_k1069, List.forall_mem_cons.mpr ⟨am_k1070, List.forall_mem_cons.mpr ⟨am_k1071, List.forall_mem_cons.mpr ⟨am_k1072, List.forall_mem_cons.mpr ⟨am_k1073, List.forall_mem_cons.mpr ⟨am_k1074, List.forall_mem_cons.mpr ⟨am_k1075, List.forall_mem_cons.mpr ⟨am_k1076, List.forall_mem_cons.mpr ⟨am_k1077, List.forall_mem_cons.mpr ⟨am_k1078, List.forall_mem_cons.mpr ⟨am_k1079, List.forall_mem_cons.mpr ⟨am_k1100, List.forall_mem_cons.mpr ⟨am_k1200, List.forall_mem_cons.mpr ⟨am_k1300, List.forall_mem_cons.mpr ⟨am_k1400, List.forall_mem_cons.mpr ⟨am_k1401, List.forall_mem_cons.mpr ⟨am_k1402, List.forall_mem_cons.mpr ⟨am_k1403, List.forall_mem_cons.mpr ⟨am_k1404, List.forall_mem_cons.mpr ⟨am_k1500, List.forall_mem_cons.mpr ⟨am_k1600, (fun _ h => absurd h List.not_mem_nil)⟩⟩⟩⟩⟩⟩⟩⟩⟩⟩⟩⟩⟩⟩⟩⟩⟩⟩⟩⟩⟩⟩⟩⟩⟩⟩⟩⟩⟩⟩⟩⟩⟩⟩⟩⟩⟩⟩⟩⟩⟩⟩⟩⟩⟩⟩⟩⟩⟩⟩⟩⟩⟩⟩⟩⟩⟩⟩⟩⟩⟩⟩⟩⟩⟩⟩⟩⟩⟩⟩⟩⟩⟩⟩⟩⟩⟩⟩⟩⟩⟩⟩⟩⟩⟩⟩⟩⟩⟩⟩⟩⟩⟩⟩⟩⟩⟩⟩⟩⟩⟩⟩⟩⟩⟩⟩⟩⟩⟩⟩⟩⟩⟩⟩⟩⟩⟩⟩⟩⟩⟩⟩⟩⟩⟩⟩⟩⟩⟩⟩⟩⟩⟩⟩⟩⟩⟩⟩⟩⟩⟩⟩⟩⟩⟩⟩⟩⟩⟩⟩⟩⟩⟩⟩⟩⟩⟩⟩⟩⟩⟩⟩⟩⟩⟩⟩⟩⟩⟩⟩⟩⟩⟩⟩⟩⟩⟩⟩⟩⟩⟩⟩⟩⟩⟩⟩⟩⟩⟩⟩⟩⟩⟩⟩⟩⟩⟩⟩⟩⟩⟩⟩⟩⟩⟩⟩⟩
