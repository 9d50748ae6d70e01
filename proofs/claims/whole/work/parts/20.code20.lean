/-! code, 20 -/
theorem c_307_949 : Snd 307 949 (i_push (aI 2) 950) := s_iconst (by decide +kernel : decode code 949 = .ok (.iconst 2, 1)) (by decide) rfl
theorem c_307_950 : Snd 307 950 (i_bin (fun a b => a + b) 951) := s_iadd (by decide +kernel : decode code 950 = .ok (.iadd, 1)) rfl
theorem c_307_951 : Snd 307 951 (i_iald 952) := s_iald (by decide +kernel : decode code 951 = .ok (.iaload, 1)) rfl
theorem c_307_952 : Snd 307 952 (i_call 239 2 9) := s_call (c := 9) (nm := "SmokeRelayModel") (by decide +kernel : decode code 952 = .ok (.invokevirtual 217, 3)) ok_239 rfl (Or.inl rfl) rfl w_1489 w_1490 w_1491
theorem c_307_955 : Snd 307 955 (i_store 7 957) := s_istore (by decide +kernel : decode code 955 = .ok (.istore 7, 2)) ⟨Or.inr (by decide +kernel), by decide +kernel⟩ rfl
theorem c_307_957 : Snd 307 957 (i_aload 2 958) := s_aload_n (by decide +kernel : decode code 957 = .ok (.aload_n 2, 1)) rfl rfl
theorem c_307_958 : Snd 307 958 (i_call 209 0 9) := s_call (c := 9) (nm := "SmokeRelayModel") (by decide +kernel : decode code 958 = .ok (.invokevirtual 179, 3)) ok_209 rfl (Or.inl rfl) rfl w_1369 w_1370 w_1371
theorem c_307_961 : Snd 307 961 (i_iload 6 963) := s_iload (by decide +kernel : decode code 961 = .ok (.iload 6, 2)) rfl
theorem c_307_963 : Snd 307 963 (i_icmp (fun a b => a = b) (fun _ _ => inferInstance) 968 966) := s_icmpeq (by decide +kernel : decode code 963 = .ok (.if_icmp .eq 5, 3)) (by decide +kernel) rfl
theorem c_307_966 : Snd 307 966 (i_push (aI 0) 967) := s_iconst (by decide +kernel : decode code 966 = .ok (.iconst 0, 1)) (by decide) rfl
theorem c_307_967 : Snd 307 967 (i_iret am_okZ) := s_iret (ty := .boolean) (by decide +kernel : decode code 967 = .ok (.ireturn, 1)) rfl am_okZ_n
theorem c_307_968 : Snd 307 968 (i_iload 6 970) := s_iload (by decide +kernel : decode code 968 = .ok (.iload 6, 2)) rfl
theorem c_307_970 : Snd 307 970 (i_if (fun a => a ≠ 0) (fun _ => inferInstance) 992 973) := s_ifne (by decide +kernel : decode code 970 = .ok (.ifCond .ne 22, 3)) (by decide +kernel) rfl
theorem c_307_973 : Snd 307 973 (i_aload 3 974) := s_aload_n (by decide +kernel : decode code 973 = .ok (.aload_n 3, 1)) rfl rfl
theorem c_307_974 : Snd 307 974 (i_push (aI 0) 975) := s_iconst (by decide +kernel : decode code 974 = .ok (.iconst 0, 1)) (by decide) rfl
theorem c_307_975 : Snd 307 975 (i_lald 976) := s_lald (by decide +kernel : decode code 975 = .ok (.laload, 1)) rfl
theorem c_307_976 : Snd 307 976 (i_iload 7 978) := s_iload (by decide +kernel : decode code 976 = .ok (.iload 7, 2)) rfl
theorem c_307_978 : Snd 307 978 (i_if (fun a => a = 0) (fun _ => inferInstance) 985 981) := s_ifeq (by decide +kernel : decode code 978 = .ok (.ifCond .eq 7, 3)) (by decide +kernel) rfl
theorem c_307_981 : Snd 307 981 (i_push (aL 1) 982) := s_lconst (by decide +kernel : decode code 981 = .ok (.lconst 1, 1)) (by decide +kernel) rfl
theorem c_307_982 : Snd 307 982 (i_goto 986) := s_goto (by decide +kernel : decode code 982 = .ok (.goto 4, 3)) (by decide +kernel)
theorem c_307_985 : Snd 307 985 (i_push (aL 0) 986) := s_lconst (by decide +kernel : decode code 985 = .ok (.lconst 0, 1)) (by decide +kernel) rfl
theorem c_307_986 : Snd 307 986 (i_lcmp 987) := s_lcmp (by decide +kernel : decode code 986 = .ok (.lcmp, 1)) rfl
theorem c_307_987 : Snd 307 987 (i_if (fun a => a = 0) (fun _ => inferInstance) 992 990) := s_ifeq (by decide +kernel : decode code 987 = .ok (.ifCond .eq 5, 3)) (by decide +kernel) rfl
theorem c_307_990 : Snd 307 990 (i_push (aI 0) 991) := s_iconst (by decide +kernel : decode code 990 = .ok (.iconst 0, 1)) (by decide) rfl
theorem c_307_991 : Snd 307 991 (i_iret am_okZ) := s_iret (ty := .boolean) (by decide +kernel : decode code 991 = .ok (.ireturn, 1)) rfl am_okZ_n
theorem c_307_992 : Snd 307 992 (i_goto 3145) := s_goto (by decide +kernel : decode code 992 = .ok (.goto 2153, 3)) (by decide +kernel)
theorem c_307_995 : Snd 307 995 (i_aload 1 996) := s_aload_n (by decide +kernel : decode code 995 = .ok (.aload_n 1, 1)) rfl rfl
theorem c_307_996 : Snd 307 996 (i_aload 0 997) := s_aload_n (by decide +kernel : decode code 996 = .ok (.aload_n 0, 1)) rfl rfl
theorem c_307_997 : Snd 307 997 (i_iload 5 999) := s_iload (by decide +kernel : decode code 997 = .ok (.iload 5, 2)) rfl
theorem c_307_999 : Snd 307 999 (i_push (aI 1) 1000) := s_iconst (by decide +kernel : decode code 999 = .ok (.iconst 1, 1)) (by decide) rfl
theorem c_307_1000 : Snd 307 1000 (i_bin (fun a b => a + b) 1001) := s_iadd (by decide +kernel : decode code 1000 = .ok (.iadd, 1)) rfl
theorem c_307_1001 : Snd 307 1001 (i_iald 1002) := s_iald (by decide +kernel : decode code 1001 = .ok (.iaload, 1)) rfl
theorem c_307_1002 : Snd 307 1002 (i_aload 0 1003) := s_aload_n (by decide +kernel : decode code 1002 = .ok (.aload_n 0, 1)) rfl rfl
theorem c_307_1003 : Snd 307 1003 (i_iload 5 1005) := s_iload (by decide +kernel : decode code 1003 = .ok (.iload 5, 2)) rfl
theorem c_307_1005 : Snd 307 1005 (i_push (aI 2) 1006) := s_iconst (by decide +kernel : decode code 1005 = .ok (.iconst 2, 1)) (by decide) rfl
theorem c_307_1006 : Snd 307 1006 (i_bin (fun a b => a + b) 1007) := s_iadd (by decide +kernel : decode code 1006 = .ok (.iadd, 1)) rfl
theorem c_307_1007 : Snd 307 1007 (i_iald 1008) := s_iald (by decide +kernel : decode code 1007 = .ok (.iaload, 1)) rfl
theorem c_307_1008 : Snd 307 1008 (i_aload 3 1009) := s_aload_n (by decide +kernel : decode code 1008 = .ok (.aload_n 3, 1)) rfl rfl
theorem c_307_1009 : Snd 307 1009 (i_calls 91 4) := s_callsX (by decide +kernel : decode code 1009 = .ok (.invokestatic 218, 3)) ok_91 rfl w_775 w_776
theorem c_307_1012 : Snd 307 1012 (i_store 6 1014) := s_istore (by decide +kernel : decode code 1012 = .ok (.istore 6, 2)) ⟨Or.inr (by decide +kernel), by decide +kernel⟩ rfl
theorem c_307_1014 : Snd 307 1014 (i_aload 2 1015) := s_aload_n (by decide +kernel : decode code 1014 = .ok (.aload_n 2, 1)) rfl rfl
theorem c_307_1015 : Snd 307 1015 (i_aload 0 1016) := s_aload_n (by decide +kernel : decode code 1015 = .ok (.aload_n 0, 1)) rfl rfl
theorem c_307_1016 : Snd 307 1016 (i_iload 5 1018) := s_iload (by decide +kernel : decode code 1016 = .ok (.iload 5, 2)) rfl
theorem c_307_1018 : Snd 307 1018 (i_push (aI 1) 1019) := s_iconst (by decide +kernel : decode code 1018 = .ok (.iconst 1, 1)) (by decide) rfl
theorem c_307_1019 : Snd 307 1019 (i_bin (fun a b => a + b) 1020) := s_iadd (by decide +kernel : decode code 1019 = .ok (.iadd, 1)) rfl
theorem c_307_1020 : Snd 307 1020 (i_iald 1021) := s_iald (by decide +kernel : decode code 1020 = .ok (.iaload, 1)) rfl
theorem c_307_1021 : Snd 307 1021 (i_aload 0 1022) := s_aload_n (by decide +kernel : decode code 1021 = .ok (.aload_n 0, 1)) rfl rfl
theorem c_307_1022 : Snd 307 1022 (i_iload 5 1024) := s_iload (by decide +kernel : decode code 1022 = .ok (.iload 5, 2)) rfl
theorem c_307_1024 : Snd 307 1024 (i_push (aI 2) 1025) := s_iconst (by decide +kernel : decode code 1024 = .ok (.iconst 2, 1)) (by decide) rfl
theorem c_307_1025 : Snd 307 1025 (i_bin (fun a b => a + b) 1026) := s_iadd (by decide +kernel : decode code 1025 = .ok (.iadd, 1)) rfl
theorem c_307_1026 : Snd 307 1026 (i_iald 1027) := s_iald (by decide +kernel : decode code 1026 = .ok (.iaload, 1)) rfl
theorem c_307_1027 : Snd 307 1027 (i_call 240 2 9) := s_call (c := 9) (nm := "SmokeRelayModel") (by decide +kernel : decode code 1027 = .ok (.invokevirtual 220, 3)) ok_240 rfl (Or.inl rfl) rfl w_1494 w_1495 w_1496
theorem c_307_1030 : Snd 307 1030 (i_store 7 1032) := s_istore (by decide +kernel : decode code 1030 = .ok (.istore 7, 2)) ⟨Or.inr (by decide +kernel), by decide +kernel⟩ rfl
theorem c_307_1032 : Snd 307 1032 (i_aload 2 1033) := s_aload_n (by decide +kernel : decode code 1032 = .ok (.aload_n 2, 1)) rfl rfl
theorem c_307_1033 : Snd 307 1033 (i_call 209 0 9) := s_call (c := 9) (nm := "SmokeRelayModel") (by decide +kernel : decode code 1033 = .ok (.invokevirtual 179, 3)) ok_209 rfl (Or.inl rfl) rfl w_1369 w_1370 w_1371
theorem c_307_1036 : Snd 307 1036 (i_iload 6 1038) := s_iload (by decide +kernel : decode code 1036 = .ok (.iload 6, 2)) rfl
theorem c_307_1038 : Snd 307 1038 (i_icmp (fun a b => a = b) (fun _ _ => inferInstance) 1043 1041) := s_icmpeq (by decide +kernel : decode code 1038 = .ok (.if_icmp .eq 5, 3)) (by decide +kernel) rfl
theorem c_307_1041 : Snd 307 1041 (i_push (aI 0) 1042) := s_iconst (by decide +kernel : decode code 1041 = .ok (.iconst 0, 1)) (by decide) rfl
theorem c_307_1042 : Snd 307 1042 (i_iret am_okZ) := s_iret (ty := .boolean) (by decide +kernel : decode code 1042 = .ok (.ireturn, 1)) rfl am_okZ_n
theorem c_307_1043 : Snd 307 1043 (i_iload 6 1045) := s_iload (by decide +kernel : decode code 1043 = .ok (.iload 6, 2)) rfl
theorem c_307_1045 : Snd 307 1045 (i_if (fun a => a ≠ 0) (fun _ => inferInstance) 1067 1048) := s_ifne (by decide +kernel : decode code 1045 = .ok (.ifCond .ne 22, 3)) (by decide +kernel) rfl
theorem c_307_1048 : Snd 307 1048 (i_aload 3 1049) := s_aload_n (by decide +kernel : decode code 1048 = .ok (.aload_n 3, 1)) rfl rfl
theorem c_307_1049 : Snd 307 1049 (i_push (aI 0) 1050) := s_iconst (by decide +kernel : decode code 1049 = .ok (.iconst 0, 1)) (by decide) rfl
theorem c_307_1050 : Snd 307 1050 (i_lald 1051) := s_lald (by decide +kernel : decode code 1050 = .ok (.laload, 1)) rfl
theorem c_307_1051 : Snd 307 1051 (i_iload 7 1053) := s_iload (by decide +kernel : decode code 1051 = .ok (.iload 7, 2)) rfl
theorem c_307_1053 : Snd 307 1053 (i_if (fun a => a = 0) (fun _ => inferInstance) 1060 1056) := s_ifeq (by decide +kernel : decode code 1053 = .ok (.ifCond .eq 7, 3)) (by decide +kernel) rfl
theorem c_307_1056 : Snd 307 1056 (i_push (aL 1) 1057) := s_lconst (by decide +kernel : decode code 1056 = .ok (.lconst 1, 1)) (by decide +kernel) rfl
theorem c_307_1057 : Snd 307 1057 (i_goto 1061) := s_goto (by decide +kernel : decode code 1057 = .ok (.goto 4, 3)) (by decide +kernel)
theorem c_307_1060 : Snd 307 1060 (i_push (aL 0) 1061) := s_lconst (by decide +kernel : decode code 1060 = .ok (.lconst 0, 1)) (by decide +kernel) rfl
theorem c_307_1061 : Snd 307 1061 (i_lcmp 1062) := s_lcmp (by decide +kernel : decode code 1061 = .ok (.lcmp, 1)) rfl
theorem c_307_1062 : Snd 307 1062 (i_if (fun a => a = 0) (fun _ => inferInstance) 1067 1065) := s_ifeq (by decide +kernel : decode code 1062 = .ok (.ifCond .eq 5, 3)) (by decide +kernel) rfl
theorem c_307_1065 : Snd 307 1065 (i_push (aI 0) 1066) := s_iconst (by decide +kernel : decode code 1065 = .ok (.iconst 0, 1)) (by decide) rfl
theorem c_307_1066 : Snd 307 1066 (i_iret am_okZ) := s_iret (ty := .boolean) (by decide +kernel : decode code 1066 = .ok (.ireturn, 1)) rfl am_okZ_n
theorem c_307_1067 : Snd 307 1067 (i_goto 3145) := s_goto (by decide +kernel : decode code 1067 = .ok (.goto 2078, 3)) (by decide +kernel)
theorem c_307_1070 : Snd 307 1070 (i_aload 1 1071) := s_aload_n (by decide +kernel : decode code 1070 = .ok (.aload_n 1, 1)) rfl rfl
theorem c_307_1071 : Snd 307 1071 (i_aload 0 1072) := s_aload_n (by decide +kernel : decode code 1071 = .ok (.aload_n 0, 1)) rfl rfl
theorem c_307_1072 : Snd 307 1072 (i_iload 5 1074) := s_iload (by decide +kernel : decode code 1072 = .ok (.iload 5, 2)) rfl
theorem c_307_1074 : Snd 307 1074 (i_push (aI 1) 1075) := s_iconst (by decide +kernel : decode code 1074 = .ok (.iconst 1, 1)) (by decide) rfl
theorem c_307_1075 : Snd 307 1075 (i_bin (fun a b => a + b) 1076) := s_iadd (by decide +kernel : decode code 1075 = .ok (.iadd, 1)) rfl
theorem c_307_1076 : Snd 307 1076 (i_iald 1077) := s_iald (by decide +kernel : decode code 1076 = .ok (.iaload, 1)) rfl
theorem c_307_1077 : Snd 307 1077 (i_aload 3 1078) := s_aload_n (by decide +kernel : decode code 1077 = .ok (.aload_n 3, 1)) rfl rfl
theorem c_307_1078 : Snd 307 1078 (i_calls 93 3) := s_callsX (by decide +kernel : decode code 1078 = .ok (.invokestatic 221, 3)) ok_93 rfl w_783 w_784
theorem c_307_1081 : Snd 307 1081 (i_store 6 1083) := s_istore (by decide +kernel : decode code 1081 = .ok (.istore 6, 2)) ⟨Or.inr (by decide +kernel), by decide +kernel⟩ rfl
theorem c_307_1083 : Snd 307 1083 (i_aload 2 1084) := s_aload_n (by decide +kernel : decode code 1083 = .ok (.aload_n 2, 1)) rfl rfl
theorem c_307_1084 : Snd 307 1084 (i_aload 0 1085) := s_aload_n (by decide +kernel : decode code 1084 = .ok (.aload_n 0, 1)) rfl rfl
theorem c_307_1085 : Snd 307 1085 (i_iload 5 1087) := s_iload (by decide +kernel : decode code 1085 = .ok (.iload 5, 2)) rfl
theorem c_307_1087 : Snd 307 1087 (i_push (aI 1) 1088) := s_iconst (by decide +kernel : decode code 1087 = .ok (.iconst 1, 1)) (by decide) rfl
theorem c_307_1088 : Snd 307 1088 (i_bin (fun a b => a + b) 1089) := s_iadd (by decide +kernel : decode code 1088 = .ok (.iadd, 1)) rfl
theorem c_307_1089 : Snd 307 1089 (i_iald 1090) := s_iald (by decide +kernel : decode code 1089 = .ok (.iaload, 1)) rfl
theorem c_307_1090 : Snd 307 1090 (i_call 242 1 9) := s_call (c := 9) (nm := "SmokeRelayModel") (by decide +kernel : decode code 1090 = .ok (.invokevirtual 223, 3)) ok_242 rfl (Or.inl rfl) rfl w_1502 w_1503 w_1504
theorem c_307_1093 : Snd 307 1093 (i_store 7 1095) := s_istore (by decide +kernel : decode code 1093 = .ok (.istore 7, 2)) ⟨Or.inr (by decide +kernel), by decide +kernel⟩ rfl
theorem c_307_1095 : Snd 307 1095 (i_aload 2 1096) := s_aload_n (by decide +kernel : decode code 1095 = .ok (.aload_n 2, 1)) rfl rfl
theorem c_307_1096 : Snd 307 1096 (i_call 209 0 9) := s_call (c := 9) (nm := "SmokeRelayModel") (by decide +kernel : decode code 1096 = .ok (.invokevirtual 179, 3)) ok_209 rfl (Or.inl rfl) rfl w_1369 w_1370 w_1371
theorem c_307_1099 : Snd 307 1099 (i_iload 6 1101) := s_iload (by decide +kernel : decode code 1099 = .ok (.iload 6, 2)) rfl
theorem c_307_1101 : Snd 307 1101 (i_icmp (fun a b => a = b) (fun _ _ => inferInstance) 1106 1104) := s_icmpeq (by decide +kernel : decode code 1101 = .ok (.if_icmp .eq 5, 3)) (by decide +kernel) rfl
theorem c_307_1104 : Snd 307 1104 (i_push (aI 0) 1105) := s_iconst (by decide +kernel : decode code 1104 = .ok (.iconst 0, 1)) (by decide) rfl
theorem c_307_1105 : Snd 307 1105 (i_iret am_okZ) := s_iret (ty := .boolean) (by decide +kernel : decode code 1105 = .ok (.ireturn, 1)) rfl am_okZ_n
theorem c_307_1106 : Snd 307 1106 (i_iload 6 1108) := s_iload (by decide +kernel : decode code 1106 = .ok (.iload 6, 2)) rfl
theorem c_307_1108 : Snd 307 1108 (i_if (fun a => a ≠ 0) (fun _ => inferInstance) 1123 1111) := s_ifne (by decide +kernel : decode code 1108 = .ok (.ifCond .ne 15, 3)) (by decide +kernel) rfl
theorem c_307_1111 : Snd 307 1111 (i_aload 3 1112) := s_aload_n (by decide +kernel : decode code 1111 = .ok (.aload_n 3, 1)) rfl rfl
theorem c_307_1112 : Snd 307 1112 (i_push (aI 0) 1113) := s_iconst (by decide +kernel : decode code 1112 = .ok (.iconst 0, 1)) (by decide) rfl
theorem c_307_1113 : Snd 307 1113 (i_lald 1114) := s_lald (by decide +kernel : decode code 1113 = .ok (.laload, 1)) rfl
theorem c_307_1114 : Snd 307 1114 (i_iload 7 1116) := s_iload (by decide +kernel : decode code 1114 = .ok (.iload 7, 2)) rfl
theorem c_307_1116 : Snd 307 1116 (i_i2l 1117) := s_i2l (by decide +kernel : decode code 1116 = .ok (.i2l, 1)) rfl
theorem c_307_1117 : Snd 307 1117 (i_lcmp 1118) := s_lcmp (by decide +kernel : decode code 1117 = .ok (.lcmp, 1)) rfl
theorem c_307_1118 : Snd 307 1118 (i_if (fun a => a = 0) (fun _ => inferInstance) 1123 1121) := s_ifeq (by decide +kernel : decode code 1118 = .ok (.ifCond .eq 5, 3)) (by decide +kernel) rfl
theorem c_307_1121 : Snd 307 1121 (i_push (aI 0) 1122) := s_iconst (by decide +kernel : decode code 1121 = .ok (.iconst 0, 1)) (by decide) rfl
theorem c_307_1122 : Snd 307 1122 (i_iret am_okZ) := s_iret (ty := .boolean) (by decide +kernel : decode code 1122 = .ok (.ireturn, 1)) rfl am_okZ_n
theorem c_307_1123 : Snd 307 1123 (i_goto 3145) := s_goto (by decide +kernel : decode code 1123 = .ok (.goto 2022, 3)) (by decide +kernel)
theorem c_307_1126 : Snd 307 1126 (i_aload 1 1127) := s_aload_n (by decide +kernel : decode code 1126 = .ok (.aload_n 1, 1)) rfl rfl
theorem c_307_1127 : Snd 307 1127 (i_aload 0 1128) := s_aload_n (by decide +kernel : decode code 1127 = .ok (.aload_n 0, 1)) rfl rfl
theorem c_307_1128 : Snd 307 1128 (i_iload 5 1130) := s_iload (by decide +kernel : decode code 1128 = .ok (.iload 5, 2)) rfl
theorem c_307_1130 : Snd 307 1130 (i_push (aI 1) 1131) := s_iconst (by decide +kernel : decode code 1130 = .ok (.iconst 1, 1)) (by decide) rfl
theorem c_307_1131 : Snd 307 1131 (i_bin (fun a b => a + b) 1132) := s_iadd (by decide +kernel : decode code 1131 = .ok (.iadd, 1)) rfl
theorem c_307_1132 : Snd 307 1132 (i_iald 1133) := s_iald (by decide +kernel : decode code 1132 = .ok (.iaload, 1)) rfl
theorem c_307_1133 : Snd 307 1133 (i_aload 3 1134) := s_aload_n (by decide +kernel : decode code 1133 = .ok (.aload_n 3, 1)) rfl rfl
theorem c_307_1134 : Snd 307 1134 (i_calls 95 3) := s_callsX (by decide +kernel : decode code 1134 = .ok (.invokestatic 224, 3)) ok_95 rfl w_792 w_793
theorem c_307_1137 : Snd 307 1137 (i_store 6 1139) := s_istore (by decide +kernel : decode code 1137 = .ok (.istore 6, 2)) ⟨Or.inr (by decide +kernel), by decide +kernel⟩ rfl
theorem c_307_1139 : Snd 307 1139 (i_aload 2 1140) := s_aload_n (by decide +kernel : decode code 1139 = .ok (.aload_n 2, 1)) rfl rfl
theorem c_307_1140 : Snd 307 1140 (i_aload 0 1141) := s_aload_n (by decide +kernel : decode code 1140 = .ok (.aload_n 0, 1)) rfl rfl
theorem c_307_1141 : Snd 307 1141 (i_iload 5 1143) := s_iload (by decide +kernel : decode code 1141 = .ok (.iload 5, 2)) rfl
theorem c_307_1143 : Snd 307 1143 (i_push (aI 1) 1144) := s_iconst (by decide +kernel : decode code 1143 = .ok (.iconst 1, 1)) (by decide) rfl
theorem c_307_1144 : Snd 307 1144 (i_bin (fun a b => a + b) 1145) := s_iadd (by decide +kernel : decode code 1144 = .ok (.iadd, 1)) rfl
theorem c_307_1145 : Snd 307 1145 (i_iald 1146) := s_iald (by decide +kernel : decode code 1145 = .ok (.iaload, 1)) rfl
theorem c_307_1146 : Snd 307 1146 (i_call 243 1 9) := s_call (c := 9) (nm := "SmokeRelayModel") (by decide +kernel : decode code 1146 = .ok (.invokevirtual 226, 3)) ok_243 rfl (Or.inl rfl) rfl w_1506 w_1507 w_1508
theorem c_307_1149 : Snd 307 1149 (i_store 7 1151) := s_istore (by decide +kernel : decode code 1149 = .ok (.istore 7, 2)) ⟨Or.inr (by decide +kernel), by decide +kernel⟩ rfl
theorem c_307_1151 : Snd 307 1151 (i_aload 2 1152) := s_aload_n (by decide +kernel : decode code 1151 = .ok (.aload_n 2, 1)) rfl rfl
theorem c_307_1152 : Snd 307 1152 (i_call 209 0 9) := s_call (c := 9) (nm := "SmokeRelayModel") (by decide +kernel : decode code 1152 = .ok (.invokevirtual 179, 3)) ok_209 rfl (Or.inl rfl) rfl w_1369 w_1370 w_1371
theorem c_307_1155 : Snd 307 1155 (i_iload 6 1157) := s_iload (by decide +kernel : decode code 1155 = .ok (.iload 6, 2)) rfl
theorem c_307_1157 : Snd 307 1157 (i_icmp (fun a b => a = b) (fun _ _ => inferInstance) 1162 1160) := s_icmpeq (by decide +kernel : decode code 1157 = .ok (.if_icmp .eq 5, 3)) (by decide +kernel) rfl
theorem c_307_1160 : Snd 307 1160 (i_push (aI 0) 1161) := s_iconst (by decide +kernel : decode code 1160 = .ok (.iconst 0, 1)) (by decide) rfl
theorem c_307_1161 : Snd 307 1161 (i_iret am_okZ) := s_iret (ty := .boolean) (by decide +kernel : decode code 1161 = .ok (.ireturn, 1)) rfl am_okZ_n
theorem c_307_1162 : Snd 307 1162 (i_iload 6 1164) := s_iload (by decide +kernel : decode code 1162 = .ok (.iload 6, 2)) rfl
theorem c_307_1164 : Snd 307 1164 (i_if (fun a => a ≠ 0) (fun _ => inferInstance) 1179 1167) := s_ifne (by decide +kernel : decode code 1164 = .ok (.ifCond .ne 15, 3)) (by decide +kernel) rfl
theorem c_307_1167 : Snd 307 1167 (i_aload 3 1168) := s_aload_n (by decide +kernel : decode code 1167 = .ok (.aload_n 3, 1)) rfl rfl
theorem c_307_1168 : Snd 307 1168 (i_push (aI 0) 1169) := s_iconst (by decide +kernel : decode code 1168 = .ok (.iconst 0, 1)) (by decide) rfl
theorem c_307_1169 : Snd 307 1169 (i_lald 1170) := s_lald (by decide +kernel : decode code 1169 = .ok (.laload, 1)) rfl
theorem c_307_1170 : Snd 307 1170 (i_iload 7 1172) := s_iload (by decide +kernel : decode code 1170 = .ok (.iload 7, 2)) rfl
theorem c_307_1172 : Snd 307 1172 (i_i2l 1173) := s_i2l (by decide +kernel : decode code 1172 = .ok (.i2l, 1)) rfl
theorem c_307_1173 : Snd 307 1173 (i_lcmp 1174) := s_lcmp (by decide +kernel : decode code 1173 = .ok (.lcmp, 1)) rfl
theorem c_307_1174 : Snd 307 1174 (i_if (fun a => a = 0) (fun _ => inferInstance) 1179 1177) := s_ifeq (by decide +kernel : decode code 1174 = .ok (.ifCond .eq 5, 3)) (by decide +kernel) rfl
theorem c_307_1177 : Snd 307 1177 (i_push (aI 0) 1178) := s_iconst (by decide +kernel : decode code 1177 = .ok (.iconst 0, 1)) (by decide) rfl
theorem c_307_1178 : Snd 307 1178 (i_iret am_okZ) := s_iret (ty := .boolean) (by decide +kernel : decode code 1178 = .ok (.ireturn, 1)) rfl am_okZ_n
theorem c_307_1179 : Snd 307 1179 (i_goto 3145) := s_goto (by decide +kernel : decode code 1179 = .ok (.goto 1966, 3)) (by decide +kernel)
theorem c_307_1182 : Snd 307 1182 (i_aload 1 1183) := s_aload_n (by decide +kernel : decode code 1182 = .ok (.aload_n 1, 1)) rfl rfl
theorem c_307_1183 : Snd 307 1183 (i_call 13 0 0) := s_call (c := 0) (nm := "SmokeRelay") (by decide +kernel : decode code 1183 = .ok (.invokevirtual 227, 3)) ok_13 rfl (Or.inl rfl) rfl w_310 w_311 w_312
theorem c_307_1186 : Snd 307 1186 (i_aload 2 1187) := s_aload_n (by decide +kernel : decode code 1186 = .ok (.aload_n 2, 1)) rfl rfl
theorem c_307_1187 : Snd 307 1187 (i_call 244 0 9) := s_call (c := 9) (nm := "SmokeRelayModel") (by decide +kernel : decode code 1187 = .ok (.invokevirtual 230, 3)) ok_244 rfl (Or.inl rfl) rfl w_1510 w_1511 w_1512
theorem c_307_1190 : Snd 307 1190 (i_icmp (fun a b => a = b) (fun _ _ => inferInstance) 3145 1193) := s_icmpeq (by decide +kernel : decode code 1190 = .ok (.if_icmp .eq 1955, 3)) (by decide +kernel) rfl
theorem c_307_1193 : Snd 307 1193 (i_push (aI 0) 1194) := s_iconst (by decide +kernel : decode code 1193 = .ok (.iconst 0, 1)) (by decide) rfl
theorem c_307_1194 : Snd 307 1194 (i_iret am_okZ) := s_iret (ty := .boolean) (by decide +kernel : decode code 1194 = .ok (.ireturn, 1)) rfl am_okZ_n
theorem c_307_1195 : Snd 307 1195 (i_aload 1 1196) := s_aload_n (by decide +kernel : decode code 1195 = .ok (.aload_n 1, 1)) rfl rfl
theorem c_307_1196 : Snd 307 1196 (i_call 21 0 0) := s_call (c := 0) (nm := "SmokeRelay") (by decide +kernel : decode code 1196 = .ok (.invokevirtual 231, 3)) ok_21 rfl (Or.inl rfl) rfl w_346 w_347 w_348
theorem c_307_1199 : Snd 307 1199 (i_aload 2 1200) := s_aload_n (by decide +kernel : decode code 1199 = .ok (.aload_n 2, 1)) rfl rfl
theorem c_307_1200 : Snd 307 1200 (i_call 246 0 9) := s_call (c := 9) (nm := "SmokeRelayModel") (by decide +kernel : decode code 1200 = .ok (.invokevirtual 234, 3)) ok_246 rfl (Or.inl rfl) rfl w_1518 w_1519 w_1520
theorem c_307_1203 : Snd 307 1203 (i_icmp (fun a b => a = b) (fun _ _ => inferInstance) 3145 1206) := s_icmpeq (by decide +kernel : decode code 1203 = .ok (.if_icmp .eq 1942, 3)) (by decide +kernel) rfl
theorem c_307_1206 : Snd 307 1206 (i_push (aI 0) 1207) := s_iconst (by decide +kernel : decode code 1206 = .ok (.iconst 0, 1)) (by decide) rfl
theorem c_307_1207 : Snd 307 1207 (i_iret am_okZ) := s_iret (ty := .boolean) (by decide +kernel : decode code 1207 = .ok (.ireturn, 1)) rfl am_okZ_n
theorem c_307_1208 : Snd 307 1208 (i_aload 1 1209) := s_aload_n (by decide +kernel : decode code 1208 = .ok (.aload_n 1, 1)) rfl rfl
theorem c_307_1209 : Snd 307 1209 (i_aload 0 1210) := s_aload_n (by decide +kernel : decode code 1209 = .ok (.aload_n 0, 1)) rfl rfl
theorem c_307_1210 : Snd 307 1210 (i_iload 5 1212) := s_iload (by decide +kernel : decode code 1210 = .ok (.iload 5, 2)) rfl
theorem c_307_1212 : Snd 307 1212 (i_push (aI 1) 1213) := s_iconst (by decide +kernel : decode code 1212 = .ok (.iconst 1, 1)) (by decide) rfl
theorem c_307_1213 : Snd 307 1213 (i_bin (fun a b => a + b) 1214) := s_iadd (by decide +kernel : decode code 1213 = .ok (.iadd, 1)) rfl
theorem c_307_1214 : Snd 307 1214 (i_iald 1215) := s_iald (by decide +kernel : decode code 1214 = .ok (.iaload, 1)) rfl
theorem c_307_1215 : Snd 307 1215 (i_aload 3 1216) := s_aload_n (by decide +kernel : decode code 1215 = .ok (.aload_n 3, 1)) rfl rfl
theorem c_307_1216 : Snd 307 1216 (i_calls 97 3) := s_callsX (by decide +kernel : decode code 1216 = .ok (.invokestatic 235, 3)) ok_97 rfl w_799 w_800
theorem c_307_1219 : Snd 307 1219 (i_store 6 1221) := s_istore (by decide +kernel : decode code 1219 = .ok (.istore 6, 2)) ⟨Or.inr (by decide +kernel), by decide +kernel⟩ rfl
theorem c_307_1221 : Snd 307 1221 (i_aload 2 1222) := s_aload_n (by decide +kernel : decode code 1221 = .ok (.aload_n 2, 1)) rfl rfl
theorem c_307_1222 : Snd 307 1222 (i_aload 0 1223) := s_aload_n (by decide +kernel : decode code 1222 = .ok (.aload_n 0, 1)) rfl rfl
theorem c_307_1223 : Snd 307 1223 (i_iload 5 1225) := s_iload (by decide +kernel : decode code 1223 = .ok (.iload 5, 2)) rfl
theorem c_307_1225 : Snd 307 1225 (i_push (aI 1) 1226) := s_iconst (by decide +kernel : decode code 1225 = .ok (.iconst 1, 1)) (by decide) rfl
theorem c_307_1226 : Snd 307 1226 (i_bin (fun a b => a + b) 1227) := s_iadd (by decide +kernel : decode code 1226 = .ok (.iadd, 1)) rfl
theorem c_307_1227 : Snd 307 1227 (i_iald 1228) := s_iald (by decide +kernel : decode code 1227 = .ok (.iaload, 1)) rfl
theorem c_307_1228 : Snd 307 1228 (i_call 247 1 9) := s_call (c := 9) (nm := "SmokeRelayModel") (by decide +kernel : decode code 1228 = .ok (.invokevirtual 237, 3)) ok_247 rfl (Or.inl rfl) rfl w_1523 w_1524 w_1525
theorem c_307_1231 : Snd 307 1231 (i_store 7 1233) := s_istore (by decide +kernel : decode code 1231 = .ok (.istore 7, 2)) ⟨Or.inr (by decide +kernel), by decide +kernel⟩ rfl
theorem c_307_1233 : Snd 307 1233 (i_aload 2 1234) := s_aload_n (by decide +kernel : decode code 1233 = .ok (.aload_n 2, 1)) rfl rfl
theorem c_307_1234 : Snd 307 1234 (i_call 209 0 9) := s_call (c := 9) (nm := "SmokeRelayModel") (by decide +kernel : decode code 1234 = .ok (.invokevirtual 179, 3)) ok_209 rfl (Or.inl rfl) rfl w_1369 w_1370 w_1371
theorem c_307_1237 : Snd 307 1237 (i_iload 6 1239) := s_iload (by decide +kernel : decode code 1237 = .ok (.iload 6, 2)) rfl
theorem c_307_1239 : Snd 307 1239 (i_icmp (fun a b => a = b) (fun _ _ => inferInstance) 1244 1242) := s_icmpeq (by decide +kernel : decode code 1239 = .ok (.if_icmp .eq 5, 3)) (by decide +kernel) rfl
theorem c_307_1242 : Snd 307 1242 (i_push (aI 0) 1243) := s_iconst (by decide +kernel : decode code 1242 = .ok (.iconst 0, 1)) (by decide) rfl
theorem c_307_1243 : Snd 307 1243 (i_iret am_okZ) := s_iret (ty := .boolean) (by decide +kernel : decode code 1243 = .ok (.ireturn, 1)) rfl am_okZ_n
theorem c_307_1244 : Snd 307 1244 (i_iload 6 1246) := s_iload (by decide +kernel : decode code 1244 = .ok (.iload 6, 2)) rfl
theorem c_307_1246 : Snd 307 1246 (i_if (fun a => a ≠ 0) (fun _ => inferInstance) 1261 1249) := s_ifne (by decide +kernel : decode code 1246 = .ok (.ifCond .ne 15, 3)) (by decide +kernel) rfl
theorem c_307_1249 : Snd 307 1249 (i_aload 3 1250) := s_aload_n (by decide +kernel : decode code 1249 = .ok (.aload_n 3, 1)) rfl rfl
theorem c_307_1250 : Snd 307 1250 (i_push (aI 0) 1251) := s_iconst (by decide +kernel : decode code 1250 = .ok (.iconst 0, 1)) (by decide) rfl
theorem c_307_1251 : Snd 307 1251 (i_lald 1252) := s_lald (by decide +kernel : decode code 1251 = .ok (.laload, 1)) rfl
theorem c_307_1252 : Snd 307 1252 (i_iload 7 1254) := s_iload (by decide +kernel : decode code 1252 = .ok (.iload 7, 2)) rfl
theorem c_307_1254 : Snd 307 1254 (i_i2l 1255) := s_i2l (by decide +kernel : decode code 1254 = .ok (.i2l, 1)) rfl
theorem c_307_1255 : Snd 307 1255 (i_lcmp 1256) := s_lcmp (by decide +kernel : decode code 1255 = .ok (.lcmp, 1)) rfl
theorem c_307_1256 : Snd 307 1256 (i_if (fun a => a = 0) (fun _ => inferInstance) 1261 1259) := s_ifeq (by decide +kernel : decode code 1256 = .ok (.ifCond .eq 5, 3)) (by decide +kernel) rfl
theorem c_307_1259 : Snd 307 1259 (i_push (aI 0) 1260) := s_iconst (by decide +kernel : decode code 1259 = .ok (.iconst 0, 1)) (by decide) rfl
theorem c_307_1260 : Snd 307 1260 (i_iret am_okZ) := s_iret (ty := .boolean) (by decide +kernel : decode code 1260 = .ok (.ireturn, 1)) rfl am_okZ_n
theorem c_307_1261 : Snd 307 1261 (i_goto 3145) := s_goto (by decide +kernel : decode code 1261 = .ok (.goto 1884, 3)) (by decide +kernel)
theorem c_307_1264 : Snd 307 1264 (i_aload 1 1265) := s_aload_n (by decide +kernel : decode code 1264 = .ok (.aload_n 1, 1)) rfl rfl
theorem c_307_1265 : Snd 307 1265 (i_call 24 0 0) := s_call (c := 0) (nm := "SmokeRelay") (by decide +kernel : decode code 1265 = .ok (.invokevirtual 238, 3)) ok_24 rfl (Or.inl rfl) rfl w_360 w_361 w_362
theorem c_307_1268 : Snd 307 1268 (i_aload 2 1269) := s_aload_n (by decide +kernel : decode code 1268 = .ok (.aload_n 2, 1)) rfl rfl
theorem c_307_1269 : Snd 307 1269 (i_call 249 0 9) := s_call (c := 9) (nm := "SmokeRelayModel") (by decide +kernel : decode code 1269 = .ok (.invokevirtual 241, 3)) ok_249 rfl (Or.inl rfl) rfl w_1531 w_1532 w_1533
theorem c_307_1272 : Snd 307 1272 (i_icmp (fun a b => a = b) (fun _ _ => inferInstance) 3145 1275) := s_icmpeq (by decide +kernel : decode code 1272 = .ok (.if_icmp .eq 1873, 3)) (by decide +kernel) rfl
theorem c_307_1275 : Snd 307 1275 (i_push (aI 0) 1276) := s_iconst (by decide +kernel : decode code 1275 = .ok (.iconst 0, 1)) (by decide) rfl
theorem c_307_1276 : Snd 307 1276 (i_iret am_okZ) := s_iret (ty := .boolean) (by decide +kernel : decode code 1276 = .ok (.ireturn, 1)) rfl am_okZ_n
theorem c_307_1277 : Snd 307 1277 (i_aload 1 1278) := s_aload_n (by decide +kernel : decode code 1277 = .ok (.aload_n 1, 1)) rfl rfl
theorem c_307_1278 : Snd 307 1278 (i_aload 0 1279) := s_aload_n (by decide +kernel : decode code 1278 = .ok (.aload_n 0, 1)) rfl rfl
theorem c_307_1279 : Snd 307 1279 (i_iload 5 1281) := s_iload (by decide +kernel : decode code 1279 = .ok (.iload 5, 2)) rfl
theorem c_307_1281 : Snd 307 1281 (i_push (aI 1) 1282) := s_iconst (by decide +kernel : decode code 1281 = .ok (.iconst 1, 1)) (by decide) rfl
theorem c_307_1282 : Snd 307 1282 (i_bin (fun a b => a + b) 1283) := s_iadd (by decide +kernel : decode code 1282 = .ok (.iadd, 1)) rfl
theorem c_307_1283 : Snd 307 1283 (i_iald 1284) := s_iald (by decide +kernel : decode code 1283 = .ok (.iaload, 1)) rfl
theorem c_307_1284 : Snd 307 1284 (i_aload 0 1285) := s_aload_n (by decide +kernel : decode code 1284 = .ok (.aload_n 0, 1)) rfl rfl
theorem c_307_1285 : Snd 307 1285 (i_iload 5 1287) := s_iload (by decide +kernel : decode code 1285 = .ok (.iload 5, 2)) rfl
theorem c_307_1287 : Snd 307 1287 (i_push (aI 2) 1288) := s_iconst (by decide +kernel : decode code 1287 = .ok (.iconst 2, 1)) (by decide) rfl
theorem c_307_1288 : Snd 307 1288 (i_bin (fun a b => a + b) 1289) := s_iadd (by decide +kernel : decode code 1288 = .ok (.iadd, 1)) rfl
theorem c_307_1289 : Snd 307 1289 (i_iald 1290) := s_iald (by decide +kernel : decode code 1289 = .ok (.iaload, 1)) rfl
theorem c_307_1290 : Snd 307 1290 (i_aload 3 1291) := s_aload_n (by decide +kernel : decode code 1290 = .ok (.aload_n 3, 1)) rfl rfl
theorem c_307_1291 : Snd 307 1291 (i_calls 100 4) := s_callsX (by decide +kernel : decode code 1291 = .ok (.invokestatic 242, 3)) ok_100 rfl w_810 w_811
theorem c_307_1294 : Snd 307 1294 (i_store 6 1296) := s_istore (by decide +kernel : decode code 1294 = .ok (.istore 6, 2)) ⟨Or.inr (by decide +kernel), by decide +kernel⟩ rfl
theorem c_307_1296 : Snd 307 1296 (i_aload 2 1297) := s_aload_n (by decide +kernel : decode code 1296 = .ok (.aload_n 2, 1)) rfl rfl
theorem c_307_1297 : Snd 307 1297 (i_aload 0 1298) := s_aload_n (by decide +kernel : decode code 1297 = .ok (.aload_n 0, 1)) rfl rfl
theorem c_307_1298 : Snd 307 1298 (i_iload 5 1300) := s_iload (by decide +kernel : decode code 1298 = .ok (.iload 5, 2)) rfl
theorem c_307_1300 : Snd 307 1300 (i_push (aI 1) 1301) := s_iconst (by decide +kernel : decode code 1300 = .ok (.iconst 1, 1)) (by decide) rfl
theorem c_307_1301 : Snd 307 1301 (i_bin (fun a b => a + b) 1302) := s_iadd (by decide +kernel : decode code 1301 = .ok (.iadd, 1)) rfl
theorem c_307_1302 : Snd 307 1302 (i_iald 1303) := s_iald (by decide +kernel : decode code 1302 = .ok (.iaload, 1)) rfl
theorem c_307_1303 : Snd 307 1303 (i_aload 0 1304) := s_aload_n (by decide +kernel : decode code 1303 = .ok (.aload_n 0, 1)) rfl rfl
theorem c_307_1304 : Snd 307 1304 (i_iload 5 1306) := s_iload (by decide +kernel : decode code 1304 = .ok (.iload 5, 2)) rfl
theorem c_307_1306 : Snd 307 1306 (i_push (aI 2) 1307) := s_iconst (by decide +kernel : decode code 1306 = .ok (.iconst 2, 1)) (by decide) rfl
theorem c_307_1307 : Snd 307 1307 (i_bin (fun a b => a + b) 1308) := s_iadd (by decide +kernel : decode code 1307 = .ok (.iadd, 1)) rfl
theorem c_307_1308 : Snd 307 1308 (i_iald 1309) := s_iald (by decide +kernel : decode code 1308 = .ok (.iaload, 1)) rfl
theorem c_307_1309 : Snd 307 1309 (i_call 250 2 9) := s_call (c := 9) (nm := "SmokeRelayModel") (by decide +kernel : decode code 1309 = .ok (.invokevirtual 244, 3)) ok_250 rfl (Or.inl rfl) rfl w_1535 w_1536 w_1537
theorem c_307_1312 : Snd 307 1312 (i_store 7 1314) := s_istore (by decide +kernel : decode code 1312 = .ok (.istore 7, 2)) ⟨Or.inr (by decide +kernel), by decide +kernel⟩ rfl
theorem c_307_1314 : Snd 307 1314 (i_aload 2 1315) := s_aload_n (by decide +kernel : decode code 1314 = .ok (.aload_n 2, 1)) rfl rfl
theorem c_307_1315 : Snd 307 1315 (i_call 209 0 9) := s_call (c := 9) (nm := "SmokeRelayModel") (by decide +kernel : decode code 1315 = .ok (.invokevirtual 179, 3)) ok_209 rfl (Or.inl rfl) rfl w_1369 w_1370 w_1371
theorem c_307_1318 : Snd 307 1318 (i_iload 6 1320) := s_iload (by decide +kernel : decode code 1318 = .ok (.iload 6, 2)) rfl
theorem c_307_1320 : Snd 307 1320 (i_icmp (fun a b => a = b) (fun _ _ => inferInstance) 1325 1323) := s_icmpeq (by decide +kernel : decode code 1320 = .ok (.if_icmp .eq 5, 3)) (by decide +kernel) rfl
theorem c_307_1323 : Snd 307 1323 (i_push (aI 0) 1324) := s_iconst (by decide +kernel : decode code 1323 = .ok (.iconst 0, 1)) (by decide) rfl
theorem c_307_1324 : Snd 307 1324 (i_iret am_okZ) := s_iret (ty := .boolean) (by decide +kernel : decode code 1324 = .ok (.ireturn, 1)) rfl am_okZ_n
theorem c_307_1325 : Snd 307 1325 (i_iload 6 1327) := s_iload (by decide +kernel : decode code 1325 = .ok (.iload 6, 2)) rfl
theorem c_307_1327 : Snd 307 1327 (i_if (fun a => a ≠ 0) (fun _ => inferInstance) 1342 1330) := s_ifne (by decide +kernel : decode code 1327 = .ok (.ifCond .ne 15, 3)) (by decide +kernel) rfl
theorem c_307_1330 : Snd 307 1330 (i_aload 3 1331) := s_aload_n (by decide +kernel : decode code 1330 = .ok (.aload_n 3, 1)) rfl rfl
theorem c_307_1331 : Snd 307 1331 (i_push (aI 0) 1332) := s_iconst (by decide +kernel : decode code 1331 = .ok (.iconst 0, 1)) (by decide) rfl
theorem c_307_1332 : Snd 307 1332 (i_lald 1333) := s_lald (by decide +kernel : decode code 1332 = .ok (.laload, 1)) rfl
theorem c_307_1333 : Snd 307 1333 (i_iload 7 1335) := s_iload (by decide +kernel : decode code 1333 = .ok (.iload 7, 2)) rfl
theorem c_307_1335 : Snd 307 1335 (i_i2l 1336) := s_i2l (by decide +kernel : decode code 1335 = .ok (.i2l, 1)) rfl
theorem c_307_1336 : Snd 307 1336 (i_lcmp 1337) := s_lcmp (by decide +kernel : decode code 1336 = .ok (.lcmp, 1)) rfl
theorem c_307_1337 : Snd 307 1337 (i_if (fun a => a = 0) (fun _ => inferInstance) 1342 1340) := s_ifeq (by decide +kernel : decode code 1337 = .ok (.ifCond .eq 5, 3)) (by decide +kernel) rfl
theorem c_307_1340 : Snd 307 1340 (i_push (aI 0) 1341) := s_iconst (by decide +kernel : decode code 1340 = .ok (.iconst 0, 1)) (by decide) rfl
theorem c_307_1341 : Snd 307 1341 (i_iret am_okZ) := s_iret (ty := .boolean) (by decide +kernel : decode code 1341 = .ok (.ireturn, 1)) rfl am_okZ_n
theorem c_307_1342 : Snd 307 1342 (i_goto 3145) := s_goto (by decide +kernel : decode code 1342 = .ok (.goto 1803, 3)) (by decide +kernel)
theorem c_307_1345 : Snd 307 1345 (i_aload 1 1346) := s_aload_n (by decide +kernel : decode code 1345 = .ok (.aload_n 1, 1)) rfl rfl
theorem c_307_1346 : Snd 307 1346 (i_aload 0 1347) := s_aload_n (by decide +kernel : decode code 1346 = .ok (.aload_n 0, 1)) rfl rfl
theorem c_307_1347 : Snd 307 1347 (i_iload 5 1349) := s_iload (by decide +kernel : decode code 1347 = .ok (.iload 5, 2)) rfl
theorem c_307_1349 : Snd 307 1349 (i_push (aI 1) 1350) := s_iconst (by decide +kernel : decode code 1349 = .ok (.iconst 1, 1)) (by decide) rfl
theorem c_307_1350 : Snd 307 1350 (i_bin (fun a b => a + b) 1351) := s_iadd (by decide +kernel : decode code 1350 = .ok (.iadd, 1)) rfl
theorem c_307_1351 : Snd 307 1351 (i_iald 1352) := s_iald (by decide +kernel : decode code 1351 = .ok (.iaload, 1)) rfl
theorem c_307_1352 : Snd 307 1352 (i_aload 0 1353) := s_aload_n (by decide +kernel : decode code 1352 = .ok (.aload_n 0, 1)) rfl rfl
theorem c_307_1353 : Snd 307 1353 (i_iload 5 1355) := s_iload (by decide +kernel : decode code 1353 = .ok (.iload 5, 2)) rfl
theorem c_307_1355 : Snd 307 1355 (i_push (aI 2) 1356) := s_iconst (by decide +kernel : decode code 1355 = .ok (.iconst 2, 1)) (by decide) rfl
theorem c_307_1356 : Snd 307 1356 (i_bin (fun a b => a + b) 1357) := s_iadd (by decide +kernel : decode code 1356 = .ok (.iadd, 1)) rfl
theorem c_307_1357 : Snd 307 1357 (i_iald 1358) := s_iald (by decide +kernel : decode code 1357 = .ok (.iaload, 1)) rfl
theorem c_307_1358 : Snd 307 1358 (i_aload 3 1359) := s_aload_n (by decide +kernel : decode code 1358 = .ok (.aload_n 3, 1)) rfl rfl
theorem c_307_1359 : Snd 307 1359 (i_calls 102 4) := s_callsX (by decide +kernel : decode code 1359 = .ok (.invokestatic 245, 3)) ok_102 rfl w_819 w_820
theorem c_307_1362 : Snd 307 1362 (i_store 6 1364) := s_istore (by decide +kernel : decode code 1362 = .ok (.istore 6, 2)) ⟨Or.inr (by decide +kernel), by decide +kernel⟩ rfl
theorem c_307_1364 : Snd 307 1364 (i_aload 2 1365) := s_aload_n (by decide +kernel : decode code 1364 = .ok (.aload_n 2, 1)) rfl rfl
theorem c_307_1365 : Snd 307 1365 (i_aload 0 1366) := s_aload_n (by decide +kernel : decode code 1365 = .ok (.aload_n 0, 1)) rfl rfl
theorem c_307_1366 : Snd 307 1366 (i_iload 5 1368) := s_iload (by decide +kernel : decode code 1366 = .ok (.iload 5, 2)) rfl
theorem c_307_1368 : Snd 307 1368 (i_push (aI 1) 1369) := s_iconst (by decide +kernel : decode code 1368 = .ok (.iconst 1, 1)) (by decide) rfl
theorem c_307_1369 : Snd 307 1369 (i_bin (fun a b => a + b) 1370) := s_iadd (by decide +kernel : decode code 1369 = .ok (.iadd, 1)) rfl
theorem c_307_1370 : Snd 307 1370 (i_iald 1371) := s_iald (by decide +kernel : decode code 1370 = .ok (.iaload, 1)) rfl
theorem c_307_1371 : Snd 307 1371 (i_aload 0 1372) := s_aload_n (by decide +kernel : decode code 1371 = .ok (.aload_n 0, 1)) rfl rfl
theorem c_307_1372 : Snd 307 1372 (i_iload 5 1374) := s_iload (by decide +kernel : decode code 1372 = .ok (.iload 5, 2)) rfl
theorem c_307_1374 : Snd 307 1374 (i_push (aI 2) 1375) := s_iconst (by decide +kernel : decode code 1374 = .ok (.iconst 2, 1)) (by decide) rfl
theorem c_307_1375 : Snd 307 1375 (i_bin (fun a b => a + b) 1376) := s_iadd (by decide +kernel : decode code 1375 = .ok (.iadd, 1)) rfl
theorem c_307_1376 : Snd 307 1376 (i_iald 1377) := s_iald (by decide +kernel : decode code 1376 = .ok (.iaload, 1)) rfl
theorem c_307_1377 : Snd 307 1377 (i_call 252 2 9) := s_call (c := 9) (nm := "SmokeRelayModel") (by decide +kernel : decode code 1377 = .ok (.invokevirtual 247, 3)) ok_252 rfl (Or.inl rfl) rfl w_1544 w_1545 w_1546
theorem c_307_1380 : Snd 307 1380 (i_store 7 1382) := s_istore (by decide +kernel : decode code 1380 = .ok (.istore 7, 2)) ⟨Or.inr (by decide +kernel), by decide +kernel⟩ rfl
theorem c_307_1382 : Snd 307 1382 (i_aload 2 1383) := s_aload_n (by decide +kernel : decode code 1382 = .ok (.aload_n 2, 1)) rfl rfl
theorem c_307_1383 : Snd 307 1383 (i_call 209 0 9) := s_call (c := 9) (nm := "SmokeRelayModel") (by decide +kernel : decode code 1383 = .ok (.invokevirtual 179, 3)) ok_209 rfl (Or.inl rfl) rfl w_1369 w_1370 w_1371
theorem c_307_1386 : Snd 307 1386 (i_iload 6 1388) := s_iload (by decide +kernel : decode code 1386 = .ok (.iload 6, 2)) rfl
theorem c_307_1388 : Snd 307 1388 (i_icmp (fun a b => a = b) (fun _ _ => inferInstance) 1393 1391) := s_icmpeq (by decide +kernel : decode code 1388 = .ok (.if_icmp .eq 5, 3)) (by decide +kernel) rfl
theorem c_307_1391 : Snd 307 1391 (i_push (aI 0) 1392) := s_iconst (by decide +kernel : decode code 1391 = .ok (.iconst 0, 1)) (by decide) rfl
theorem c_307_1392 : Snd 307 1392 (i_iret am_okZ) := s_iret (ty := .boolean) (by decide +kernel : decode code 1392 = .ok (.ireturn, 1)) rfl am_okZ_n
theorem c_307_1393 : Snd 307 1393 (i_iload 6 1395) := s_iload (by decide +kernel : decode code 1393 = .ok (.iload 6, 2)) rfl
theorem c_307_1395 : Snd 307 1395 (i_if (fun a => a ≠ 0) (fun _ => inferInstance) 1410 1398) := s_ifne (by decide +kernel : decode code 1395 = .ok (.ifCond .ne 15, 3)) (by decide +kernel) rfl
theorem c_307_1398 : Snd 307 1398 (i_aload 3 1399) := s_aload_n (by decide +kernel : decode code 1398 = .ok (.aload_n 3, 1)) rfl rfl
theorem c_307_1399 : Snd 307 1399 (i_push (aI 0) 1400) := s_iconst (by decide +kernel : decode code 1399 = .ok (.iconst 0, 1)) (by decide) rfl
theorem c_307_1400 : Snd 307 1400 (i_lald 1401) := s_lald (by decide +kernel : decode code 1400 = .ok (.laload, 1)) rfl
theorem c_307_1401 : Snd 307 1401 (i_iload 7 1403) := s_iload (by decide +kernel : decode code 1401 = .ok (.iload 7, 2)) rfl
theorem c_307_1403 : Snd 307 1403 (i_i2l 1404) := s_i2l (by decide +kernel : decode code 1403 = .ok (.i2l, 1)) rfl
theorem c_307_1404 : Snd 307 1404 (i_lcmp 1405) := s_lcmp (by decide +kernel : decode code 1404 = .ok (.lcmp, 1)) rfl
theorem c_307_1405 : Snd 307 1405 (i_if (fun a => a = 0) (fun _ => inferInstance) 1410 1408) := s_ifeq (by decide +kernel : decode code 1405 = .ok (.ifCond .eq 5, 3)) (by decide +kernel) rfl
theorem c_307_1408 : Snd 307 1408 (i_push (aI 0) 1409) := s_iconst (by decide +kernel : decode code 1408 = .ok (.iconst 0, 1)) (by decide) rfl
theorem c_307_1409 : Snd 307 1409 (i_iret am_okZ) := s_iret (ty := .boolean) (by decide +kernel : decode code 1409 = .ok (.ireturn, 1)) rfl am_okZ_n
theorem c_307_1410 : Snd 307 1410 (i_goto 3145) := s_goto (by decide +kernel : decode code 1410 = .ok (.goto 1735, 3)) (by decide +kernel)
theorem c_307_1413 : Snd 307 1413 (i_aload 1 1414) := s_aload_n (by decide +kernel : decode code 1413 = .ok (.aload_n 1, 1)) rfl rfl
theorem c_307_1414 : Snd 307 1414 (i_aload 0 1415) := s_aload_n (by decide +kernel : decode code 1414 = .ok (.aload_n 0, 1)) rfl rfl
theorem c_307_1415 : Snd 307 1415 (i_iload 5 1417) := s_iload (by decide +kernel : decode code 1415 = .ok (.iload 5, 2)) rfl
theorem c_307_1417 : Snd 307 1417 (i_push (aI 1) 1418) := s_iconst (by decide +kernel : decode code 1417 = .ok (.iconst 1, 1)) (by decide) rfl
theorem c_307_1418 : Snd 307 1418 (i_bin (fun a b => a + b) 1419) := s_iadd (by decide +kernel : decode code 1418 = .ok (.iadd, 1)) rfl
theorem c_307_1419 : Snd 307 1419 (i_iald 1420) := s_iald (by decide +kernel : decode code 1419 = .ok (.iaload, 1)) rfl
theorem c_307_1420 : Snd 307 1420 (i_aload 0 1421) := s_aload_n (by decide +kernel : decode code 1420 = .ok (.aload_n 0, 1)) rfl rfl
theorem c_307_1421 : Snd 307 1421 (i_iload 5 1423) := s_iload (by decide +kernel : decode code 1421 = .ok (.iload 5, 2)) rfl
theorem c_307_1423 : Snd 307 1423 (i_push (aI 2) 1424) := s_iconst (by decide +kernel : decode code 1423 = .ok (.iconst 2, 1)) (by decide) rfl
theorem c_307_1424 : Snd 307 1424 (i_bin (fun a b => a + b) 1425) := s_iadd (by decide +kernel : decode code 1424 = .ok (.iadd, 1)) rfl
theorem c_307_1425 : Snd 307 1425 (i_iald 1426) := s_iald (by decide +kernel : decode code 1425 = .ok (.iaload, 1)) rfl
theorem c_307_1426 : Snd 307 1426 (i_aload 3 1427) := s_aload_n (by decide +kernel : decode code 1426 = .ok (.aload_n 3, 1)) rfl rfl
theorem c_307_1427 : Snd 307 1427 (i_calls 107 4) := s_callsX (by decide +kernel : decode code 1427 = .ok (.invokestatic 248, 3)) ok_107 rfl w_839 w_840
theorem c_307_1430 : Snd 307 1430 (i_store 6 1432) := s_istore (by decide +kernel : decode code 1430 = .ok (.istore 6, 2)) ⟨Or.inr (by decide +kernel), by decide +kernel⟩ rfl
theorem c_307_1432 : Snd 307 1432 (i_aload 2 1433) := s_aload_n (by decide +kernel : decode code 1432 = .ok (.aload_n 2, 1)) rfl rfl
theorem c_307_1433 : Snd 307 1433 (i_aload 0 1434) := s_aload_n (by decide +kernel : decode code 1433 = .ok (.aload_n 0, 1)) rfl rfl
theorem c_307_1434 : Snd 307 1434 (i_iload 5 1436) := s_iload (by decide +kernel : decode code 1434 = .ok (.iload 5, 2)) rfl
theorem c_307_1436 : Snd 307 1436 (i_push (aI 1) 1437) := s_iconst (by decide +kernel : decode code 1436 = .ok (.iconst 1, 1)) (by decide) rfl
theorem c_307_1437 : Snd 307 1437 (i_bin (fun a b => a + b) 1438) := s_iadd (by decide +kernel : decode code 1437 = .ok (.iadd, 1)) rfl
theorem c_307_1438 : Snd 307 1438 (i_iald 1439) := s_iald (by decide +kernel : decode code 1438 = .ok (.iaload, 1)) rfl
theorem c_307_1439 : Snd 307 1439 (i_aload 0 1440) := s_aload_n (by decide +kernel : decode code 1439 = .ok (.aload_n 0, 1)) rfl rfl
theorem c_307_1440 : Snd 307 1440 (i_iload 5 1442) := s_iload (by decide +kernel : decode code 1440 = .ok (.iload 5, 2)) rfl
theorem c_307_1442 : Snd 307 1442 (i_push (aI 2) 1443) := s_iconst (by decide +kernel : decode code 1442 = .ok (.iconst 2, 1)) (by decide) rfl
theorem c_307_1443 : Snd 307 1443 (i_bin (fun a b => a + b) 1444) := s_iadd (by decide +kernel : decode code 1443 = .ok (.iadd, 1)) rfl
theorem c_307_1444 : Snd 307 1444 (i_iald 1445) := s_iald (by decide +kernel : decode code 1444 = .ok (.iaload, 1)) rfl
theorem c_307_1445 : Snd 307 1445 (i_call 255 2 9) := s_call (c := 9) (nm := "SmokeRelayModel") (by decide +kernel : decode code 1445 = .ok (.invokevirtual 250, 3)) ok_255 rfl (Or.inl rfl) rfl w_1557 w_1558 w_1559
theorem c_307_1448 : Snd 307 1448 (i_store 7 1450) := s_istore (by decide +kernel : decode code 1448 = .ok (.istore 7, 2)) ⟨Or.inr (by decide +kernel), by decide +kernel⟩ rfl
theorem c_307_1450 : Snd 307 1450 (i_aload 2 1451) := s_aload_n (by decide +kernel : decode code 1450 = .ok (.aload_n 2, 1)) rfl rfl
theorem c_307_1451 : Snd 307 1451 (i_call 209 0 9) := s_call (c := 9) (nm := "SmokeRelayModel") (by decide +kernel : decode code 1451 = .ok (.invokevirtual 179, 3)) ok_209 rfl (Or.inl rfl) rfl w_1369 w_1370 w_1371
theorem c_307_1454 : Snd 307 1454 (i_iload 6 1456) := s_iload (by decide +kernel : decode code 1454 = .ok (.iload 6, 2)) rfl
theorem c_307_1456 : Snd 307 1456 (i_icmp (fun a b => a = b) (fun _ _ => inferInstance) 1461 1459) := s_icmpeq (by decide +kernel : decode code 1456 = .ok (.if_icmp .eq 5, 3)) (by decide +kernel) rfl
theorem c_307_1459 : Snd 307 1459 (i_push (aI 0) 1460) := s_iconst (by decide +kernel : decode code 1459 = .ok (.iconst 0, 1)) (by decide) rfl
theorem c_307_1460 : Snd 307 1460 (i_iret am_okZ) := s_iret (ty := .boolean) (by decide +kernel : decode code 1460 = .ok (.ireturn, 1)) rfl am_okZ_n
theorem c_307_1461 : Snd 307 1461 (i_iload 6 1463) := s_iload (by decide +kernel : decode code 1461 = .ok (.iload 6, 2)) rfl
theorem c_307_1463 : Snd 307 1463 (i_if (fun a => a ≠ 0) (fun _ => inferInstance) 1478 1466) := s_ifne (by decide +kernel : decode code 1463 = .ok (.ifCond .ne 15, 3)) (by decide +kernel) rfl
theorem c_307_1466 : Snd 307 1466 (i_aload 3 1467) := s_aload_n (by decide +kernel : decode code 1466 = .ok (.aload_n 3, 1)) rfl rfl
theorem c_307_1467 : Snd 307 1467 (i_push (aI 0) 1468) := s_iconst (by decide +kernel : decode code 1467 = .ok (.iconst 0, 1)) (by decide) rfl
theorem c_307_1468 : Snd 307 1468 (i_lald 1469) := s_lald (by decide +kernel : decode code 1468 = .ok (.laload, 1)) rfl
theorem c_307_1469 : Snd 307 1469 (i_iload 7 1471) := s_iload (by decide +kernel : decode code 1469 = .ok (.iload 7, 2)) rfl
theorem c_307_1471 : Snd 307 1471 (i_i2l 1472) := s_i2l (by decide +kernel : decode code 1471 = .ok (.i2l, 1)) rfl
theorem c_307_1472 : Snd 307 1472 (i_lcmp 1473) := s_lcmp (by decide +kernel : decode code 1472 = .ok (.lcmp, 1)) rfl
theorem c_307_1473 : Snd 307 1473 (i_if (fun a => a = 0) (fun _ => inferInstance) 1478 1476) := s_ifeq (by decide +kernel : decode code 1473 = .ok (.ifCond .eq 5, 3)) (by decide +kernel) rfl
theorem c_307_1476 : Snd 307 1476 (i_push (aI 0) 1477) := s_iconst (by decide +kernel : decode code 1476 = .ok (.iconst 0, 1)) (by decide) rfl
theorem c_307_1477 : Snd 307 1477 (i_iret am_okZ) := s_iret (ty := .boolean) (by decide +kernel : decode code 1477 = .ok (.ireturn, 1)) rfl am_okZ_n
theorem c_307_1478 : Snd 307 1478 (i_goto 3145) := s_goto (by decide +kernel : decode code 1478 = .ok (.goto 1667, 3)) (by decide +kernel)
theorem c_307_1481 : Snd 307 1481 (i_aload 1 1482) := s_aload_n (by decide +kernel : decode code 1481 = .ok (.aload_n 1, 1)) rfl rfl
theorem c_307_1482 : Snd 307 1482 (i_aload 0 1483) := s_aload_n (by decide +kernel : decode code 1482 = .ok (.aload_n 0, 1)) rfl rfl
theorem c_307_1483 : Snd 307 1483 (i_iload 5 1485) := s_iload (by decide +kernel : decode code 1483 = .ok (.iload 5, 2)) rfl
theorem c_307_1485 : Snd 307 1485 (i_push (aI 1) 1486) := s_iconst (by decide +kernel : decode code 1485 = .ok (.iconst 1, 1)) (by decide) rfl
theorem c_307_1486 : Snd 307 1486 (i_bin (fun a b => a + b) 1487) := s_iadd (by decide +kernel : decode code 1486 = .ok (.iadd, 1)) rfl
theorem c_307_1487 : Snd 307 1487 (i_iald 1488) := s_iald (by decide +kernel : decode code 1487 = .ok (.iaload, 1)) rfl
theorem c_307_1488 : Snd 307 1488 (i_aload 0 1489) := s_aload_n (by decide +kernel : decode code 1488 = .ok (.aload_n 0, 1)) rfl rfl
theorem c_307_1489 : Snd 307 1489 (i_iload 5 1491) := s_iload (by decide +kernel : decode code 1489 = .ok (.iload 5, 2)) rfl
theorem c_307_1491 : Snd 307 1491 (i_push (aI 2) 1492) := s_iconst (by decide +kernel : decode code 1491 = .ok (.iconst 2, 1)) (by decide) rfl
theorem c_307_1492 : Snd 307 1492 (i_bin (fun a b => a + b) 1493) := s_iadd (by decide +kernel : decode code 1492 = .ok (.iadd, 1)) rfl
theorem c_307_1493 : Snd 307 1493 (i_iald 1494) := s_iald (by decide +kernel : decode code 1493 = .ok (.iaload, 1)) rfl
theorem c_307_1494 : Snd 307 1494 (i_aload 3 1495) := s_aload_n (by decide +kernel : decode code 1494 = .ok (.aload_n 3, 1)) rfl rfl
theorem c_307_1495 : Snd 307 1495 (i_calls 110 4) := s_callsX (by decide +kernel : decode code 1495 = .ok (.invokestatic 251, 3)) ok_110 rfl w_850 w_851
theorem c_307_1498 : Snd 307 1498 (i_store 6 1500) := s_istore (by decide +kernel : decode code 1498 = .ok (.istore 6, 2)) ⟨Or.inr (by decide +kernel), by decide +kernel⟩ rfl
theorem c_307_1500 : Snd 307 1500 (i_aload 2 1501) := s_aload_n (by decide +kernel : decode code 1500 = .ok (.aload_n 2, 1)) rfl rfl
theorem c_307_1501 : Snd 307 1501 (i_aload 0 1502) := s_aload_n (by decide +kernel : decode code 1501 = .ok (.aload_n 0, 1)) rfl rfl
theorem c_307_1502 : Snd 307 1502 (i_iload 5 1504) := s_iload (by decide +kernel : decode code 1502 = .ok (.iload 5, 2)) rfl
theorem c_307_1504 : Snd 307 1504 (i_push (aI 1) 1505) := s_iconst (by decide +kernel : decode code 1504 = .ok (.iconst 1, 1)) (by decide) rfl
theorem c_307_1505 : Snd 307 1505 (i_bin (fun a b => a + b) 1506) := s_iadd (by decide +kernel : decode code 1505 = .ok (.iadd, 1)) rfl
theorem c_307_1506 : Snd 307 1506 (i_iald 1507) := s_iald (by decide +kernel : decode code 1506 = .ok (.iaload, 1)) rfl
theorem c_307_1507 : Snd 307 1507 (i_aload 0 1508) := s_aload_n (by decide +kernel : decode code 1507 = .ok (.aload_n 0, 1)) rfl rfl
theorem c_307_1508 : Snd 307 1508 (i_iload 5 1510) := s_iload (by decide +kernel : decode code 1508 = .ok (.iload 5, 2)) rfl
theorem c_307_1510 : Snd 307 1510 (i_push (aI 2) 1511) := s_iconst (by decide +kernel : decode code 1510 = .ok (.iconst 2, 1)) (by decide) rfl
theorem c_307_1511 : Snd 307 1511 (i_bin (fun a b => a + b) 1512) := s_iadd (by decide +kernel : decode code 1511 = .ok (.iadd, 1)) rfl
theorem c_307_1512 : Snd 307 1512 (i_iald 1513) := s_iald (by decide +kernel : decode code 1512 = .ok (.iaload, 1)) rfl
theorem c_307_1513 : Snd 307 1513 (i_call 256 2 9) := s_call (c := 9) (nm := "SmokeRelayModel") (by decide +kernel : decode code 1513 = .ok (.invokevirtual 253, 3)) ok_256 rfl (Or.inl rfl) rfl w_1562 w_1563 w_1564
theorem c_307_1516 : Snd 307 1516 (i_store 7 1518) := s_istore (by decide +kernel : decode code 1516 = .ok (.istore 7, 2)) ⟨Or.inr (by decide +kernel), by decide +kernel⟩ rfl
theorem c_307_1518 : Snd 307 1518 (i_aload 2 1519) := s_aload_n (by decide +kernel : decode code 1518 = .ok (.aload_n 2, 1)) rfl rfl
theorem c_307_1519 : Snd 307 1519 (i_call 209 0 9) := s_call (c := 9) (nm := "SmokeRelayModel") (by decide +kernel : decode code 1519 = .ok (.invokevirtual 179, 3)) ok_209 rfl (Or.inl rfl) rfl w_1369 w_1370 w_1371
theorem c_307_1522 : Snd 307 1522 (i_iload 6 1524) := s_iload (by decide +kernel : decode code 1522 = .ok (.iload 6, 2)) rfl
theorem c_307_1524 : Snd 307 1524 (i_icmp (fun a b => a = b) (fun _ _ => inferInstance) 1529 1527) := s_icmpeq (by decide +kernel : decode code 1524 = .ok (.if_icmp .eq 5, 3)) (by decide +kernel) rfl
theorem c_307_1527 : Snd 307 1527 (i_push (aI 0) 1528) := s_iconst (by decide +kernel : decode code 1527 = .ok (.iconst 0, 1)) (by decide) rfl
theorem c_307_1528 : Snd 307 1528 (i_iret am_okZ) := s_iret (ty := .boolean) (by decide +kernel : decode code 1528 = .ok (.ireturn, 1)) rfl am_okZ_n
theorem c_307_1529 : Snd 307 1529 (i_iload 6 1531) := s_iload (by decide +kernel : decode code 1529 = .ok (.iload 6, 2)) rfl
theorem c_307_1531 : Snd 307 1531 (i_if (fun a => a ≠ 0) (fun _ => inferInstance) 1546 1534) := s_ifne (by decide +kernel : decode code 1531 = .ok (.ifCond .ne 15, 3)) (by decide +kernel) rfl
theorem c_307_1534 : Snd 307 1534 (i_aload 3 1535) := s_aload_n (by decide +kernel : decode code 1534 = .ok (.aload_n 3, 1)) rfl rfl
theorem c_307_1535 : Snd 307 1535 (i_push (aI 0) 1536) := s_iconst (by decide +kernel : decode code 1535 = .ok (.iconst 0, 1)) (by decide) rfl
theorem c_307_1536 : Snd 307 1536 (i_lald 1537) := s_lald (by decide +kernel : decode code 1536 = .ok (.laload, 1)) rfl
theorem c_307_1537 : Snd 307 1537 (i_iload 7 1539) := s_iload (by decide +kernel : decode code 1537 = .ok (.iload 7, 2)) rfl
theorem c_307_1539 : Snd 307 1539 (i_i2l 1540) := s_i2l (by decide +kernel : decode code 1539 = .ok (.i2l, 1)) rfl
theorem c_307_1540 : Snd 307 1540 (i_lcmp 1541) := s_lcmp (by decide +kernel : decode code 1540 = .ok (.lcmp, 1)) rfl
theorem c_307_1541 : Snd 307 1541 (i_if (fun a => a = 0) (fun _ => inferInstance) 1546 1544) := s_ifeq (by decide +kernel : decode code 1541 = .ok (.ifCond .eq 5, 3)) (by decide +kernel) rfl
theorem c_307_1544 : Snd 307 1544 (i_push (aI 0) 1545) := s_iconst (by decide +kernel : decode code 1544 = .ok (.iconst 0, 1)) (by decide) rfl
theorem c_307_1545 : Snd 307 1545 (i_iret am_okZ) := s_iret (ty := .boolean) (by decide +kernel : decode code 1545 = .ok (.ireturn, 1)) rfl am_okZ_n
theorem c_307_1546 : Snd 307 1546 (i_goto 3145) := s_goto (by decide +kernel : decode code 1546 = .ok (.goto 1599, 3)) (by decide +kernel)
theorem c_307_1549 : Snd 307 1549 (i_aload 1 1550) := s_aload_n (by decide +kernel : decode code 1549 = .ok (.aload_n 1, 1)) rfl rfl
theorem c_307_1550 : Snd 307 1550 (i_aload 0 1551) := s_aload_n (by decide +kernel : decode code 1550 = .ok (.aload_n 0, 1)) rfl rfl
theorem c_307_1551 : Snd 307 1551 (i_iload 5 1553) := s_iload (by decide +kernel : decode code 1551 = .ok (.iload 5, 2)) rfl
theorem c_307_1553 : Snd 307 1553 (i_push (aI 1) 1554) := s_iconst (by decide +kernel : decode code 1553 = .ok (.iconst 1, 1)) (by decide) rfl
theorem c_307_1554 : Snd 307 1554 (i_bin (fun a b => a + b) 1555) := s_iadd (by decide +kernel : decode code 1554 = .ok (.iadd, 1)) rfl
theorem c_307_1555 : Snd 307 1555 (i_iald 1556) := s_iald (by decide +kernel : decode code 1555 = .ok (.iaload, 1)) rfl
theorem c_307_1556 : Snd 307 1556 (i_aload 0 1557) := s_aload_n (by decide +kernel : decode code 1556 = .ok (.aload_n 0, 1)) rfl rfl
theorem c_307_1557 : Snd 307 1557 (i_iload 5 1559) := s_iload (by decide +kernel : decode code 1557 = .ok (.iload 5, 2)) rfl
theorem c_307_1559 : Snd 307 1559 (i_push (aI 2) 1560) := s_iconst (by decide +kernel : decode code 1559 = .ok (.iconst 2, 1)) (by decide) rfl
theorem c_307_1560 : Snd 307 1560 (i_bin (fun a b => a + b) 1561) := s_iadd (by decide +kernel : decode code 1560 = .ok (.iadd, 1)) rfl
theorem c_307_1561 : Snd 307 1561 (i_iald 1562) := s_iald (by decide +kernel : decode code 1561 = .ok (.iaload, 1)) rfl
theorem c_307_1562 : Snd 307 1562 (i_aload 0 1563) := s_aload_n (by decide +kernel : decode code 1562 = .ok (.aload_n 0, 1)) rfl rfl
theorem c_307_1563 : Snd 307 1563 (i_iload 5 1565) := s_iload (by decide +kernel : decode code 1563 = .ok (.iload 5, 2)) rfl
theorem c_307_1565 : Snd 307 1565 (i_push (aI 3) 1566) := s_iconst (by decide +kernel : decode code 1565 = .ok (.iconst 3, 1)) (by decide) rfl
theorem c_307_1566 : Snd 307 1566 (i_bin (fun a b => a + b) 1567) := s_iadd (by decide +kernel : decode code 1566 = .ok (.iadd, 1)) rfl
theorem c_307_1567 : Snd 307 1567 (i_iald 1568) := s_iald (by decide +kernel : decode code 1567 = .ok (.iaload, 1)) rfl
theorem c_307_1568 : Snd 307 1568 (i_aload 3 1569) := s_aload_n (by decide +kernel : decode code 1568 = .ok (.aload_n 3, 1)) rfl rfl
theorem c_307_1569 : Snd 307 1569 (i_calls 112 5) := s_callsX (by decide +kernel : decode code 1569 = .ok (.invokestatic 254, 3)) ok_112 rfl w_857 w_858
theorem c_307_1572 : Snd 307 1572 (i_store 6 1574) := s_istore (by decide +kernel : decode code 1572 = .ok (.istore 6, 2)) ⟨Or.inr (by decide +kernel), by decide +kernel⟩ rfl
theorem c_307_1574 : Snd 307 1574 (i_aload 2 1575) := s_aload_n (by decide +kernel : decode code 1574 = .ok (.aload_n 2, 1)) rfl rfl
