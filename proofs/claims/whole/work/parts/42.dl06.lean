theorem dl_944 : decode code 944 = .ok (.aload_n 2, 1) := by decide +kernel
theorem dl_945 : decode code 945 = .ok (.aload_n 0, 1) := by decide +kernel
theorem dl_946 : decode code 946 = .ok (.iload_n 3, 1) := by decide +kernel
theorem dl_947 : decode code 947 = .ok (.iconst 1, 1) := by decide +kernel
theorem dl_948 : decode code 948 = .ok (.iadd, 1) := by decide +kernel
theorem dl_949 : decode code 949 = .ok (.iaload, 1) := by decide +kernel
theorem dl_950 : decode code 950 = .ok (.aload_n 0, 1) := by decide +kernel
theorem dl_951 : decode code 951 = .ok (.iload_n 3, 1) := by decide +kernel
theorem dl_952 : decode code 952 = .ok (.iconst 2, 1) := by decide +kernel
theorem dl_953 : decode code 953 = .ok (.iadd, 1) := by decide +kernel
theorem dl_954 : decode code 954 = .ok (.iaload, 1) := by decide +kernel
theorem dl_955 : decode code 955 = .ok (.invokevirtual 133, 3) := by decide +kernel
theorem dl_958 : decode code 958 = .ok (.if_icmp .eq 229, 3) := by decide +kernel
theorem dl_961 : decode code 961 = .ok (.iconst 0, 1) := by decide +kernel
theorem dl_962 : decode code 962 = .ok (.ireturn, 1) := by decide +kernel
theorem dl_963 : decode code 963 = .ok (.aload_n 1, 1) := by decide +kernel
theorem dl_964 : decode code 964 = .ok (.aload_n 0, 1) := by decide +kernel
theorem dl_965 : decode code 965 = .ok (.iload_n 3, 1) := by decide +kernel
theorem dl_966 : decode code 966 = .ok (.iconst 1, 1) := by decide +kernel
theorem dl_967 : decode code 967 = .ok (.iadd, 1) := by decide +kernel
theorem dl_968 : decode code 968 = .ok (.iaload, 1) := by decide +kernel
theorem dl_969 : decode code 969 = .ok (.aload_n 0, 1) := by decide +kernel
theorem dl_970 : decode code 970 = .ok (.iload_n 3, 1) := by decide +kernel
theorem dl_971 : decode code 971 = .ok (.iconst 2, 1) := by decide +kernel
theorem dl_972 : decode code 972 = .ok (.iadd, 1) := by decide +kernel
theorem dl_973 : decode code 973 = .ok (.iaload, 1) := by decide +kernel
theorem dl_974 : decode code 974 = .ok (.invokevirtual 134, 3) := by decide +kernel
theorem dl_977 : decode code 977 = .ok (.aload_n 2, 1) := by decide +kernel
theorem dl_978 : decode code 978 = .ok (.aload_n 0, 1) := by decide +kernel
theorem dl_979 : decode code 979 = .ok (.iload_n 3, 1) := by decide +kernel
theorem dl_980 : decode code 980 = .ok (.iconst 1, 1) := by decide +kernel
theorem dl_981 : decode code 981 = .ok (.iadd, 1) := by decide +kernel
theorem dl_982 : decode code 982 = .ok (.iaload, 1) := by decide +kernel
theorem dl_983 : decode code 983 = .ok (.aload_n 0, 1) := by decide +kernel
theorem dl_984 : decode code 984 = .ok (.iload_n 3, 1) := by decide +kernel
theorem dl_985 : decode code 985 = .ok (.iconst 2, 1) := by decide +kernel
theorem dl_986 : decode code 986 = .ok (.iadd, 1) := by decide +kernel
theorem dl_987 : decode code 987 = .ok (.iaload, 1) := by decide +kernel
theorem dl_988 : decode code 988 = .ok (.invokevirtual 137, 3) := by decide +kernel
theorem dl_991 : decode code 991 = .ok (.if_icmp .eq 196, 3) := by decide +kernel
theorem dl_994 : decode code 994 = .ok (.iconst 0, 1) := by decide +kernel
theorem dl_995 : decode code 995 = .ok (.ireturn, 1) := by decide +kernel
theorem dl_996 : decode code 996 = .ok (.aload_n 1, 1) := by decide +kernel
theorem dl_997 : decode code 997 = .ok (.aload_n 0, 1) := by decide +kernel
theorem dl_998 : decode code 998 = .ok (.iload_n 3, 1) := by decide +kernel
theorem dl_999 : decode code 999 = .ok (.iconst 1, 1) := by decide +kernel
theorem dl_1000 : decode code 1000 = .ok (.iadd, 1) := by decide +kernel
theorem dl_1001 : decode code 1001 = .ok (.iaload, 1) := by decide +kernel
theorem dl_1002 : decode code 1002 = .ok (.invokevirtual 138, 3) := by decide +kernel
theorem dl_1005 : decode code 1005 = .ok (.aload_n 2, 1) := by decide +kernel
theorem dl_1006 : decode code 1006 = .ok (.aload_n 0, 1) := by decide +kernel
theorem dl_1007 : decode code 1007 = .ok (.iload_n 3, 1) := by decide +kernel
theorem dl_1008 : decode code 1008 = .ok (.iconst 1, 1) := by decide +kernel
theorem dl_1009 : decode code 1009 = .ok (.iadd, 1) := by decide +kernel
theorem dl_1010 : decode code 1010 = .ok (.iaload, 1) := by decide +kernel
theorem dl_1011 : decode code 1011 = .ok (.invokevirtual 141, 3) := by decide +kernel
theorem dl_1014 : decode code 1014 = .ok (.if_icmp .eq 173, 3) := by decide +kernel
theorem dl_1017 : decode code 1017 = .ok (.iconst 0, 1) := by decide +kernel
theorem dl_1018 : decode code 1018 = .ok (.ireturn, 1) := by decide +kernel
theorem dl_1019 : decode code 1019 = .ok (.aload_n 1, 1) := by decide +kernel
theorem dl_1020 : decode code 1020 = .ok (.aload_n 0, 1) := by decide +kernel
theorem dl_1021 : decode code 1021 = .ok (.iload_n 3, 1) := by decide +kernel
theorem dl_1022 : decode code 1022 = .ok (.iconst 1, 1) := by decide +kernel
theorem dl_1023 : decode code 1023 = .ok (.iadd, 1) := by decide +kernel
theorem dl_1024 : decode code 1024 = .ok (.iaload, 1) := by decide +kernel
theorem dl_1025 : decode code 1025 = .ok (.invokevirtual 142, 3) := by decide +kernel
theorem dl_1028 : decode code 1028 = .ok (.aload_n 2, 1) := by decide +kernel
theorem dl_1029 : decode code 1029 = .ok (.aload_n 0, 1) := by decide +kernel
theorem dl_1030 : decode code 1030 = .ok (.iload_n 3, 1) := by decide +kernel
theorem dl_1031 : decode code 1031 = .ok (.iconst 1, 1) := by decide +kernel
theorem dl_1032 : decode code 1032 = .ok (.iadd, 1) := by decide +kernel
theorem dl_1033 : decode code 1033 = .ok (.iaload, 1) := by decide +kernel
theorem dl_1034 : decode code 1034 = .ok (.invokevirtual 145, 3) := by decide +kernel
theorem dl_1037 : decode code 1037 = .ok (.if_icmp .eq 150, 3) := by decide +kernel
theorem dl_1040 : decode code 1040 = .ok (.iconst 0, 1) := by decide +kernel
theorem dl_1041 : decode code 1041 = .ok (.ireturn, 1) := by decide +kernel
theorem dl_1042 : decode code 1042 = .ok (.aload_n 1, 1) := by decide +kernel
theorem dl_1043 : decode code 1043 = .ok (.aload_n 0, 1) := by decide +kernel
theorem dl_1044 : decode code 1044 = .ok (.iload_n 3, 1) := by decide +kernel
theorem dl_1045 : decode code 1045 = .ok (.iconst 1, 1) := by decide +kernel
theorem dl_1046 : decode code 1046 = .ok (.iadd, 1) := by decide +kernel
theorem dl_1047 : decode code 1047 = .ok (.iaload, 1) := by decide +kernel
theorem dl_1048 : decode code 1048 = .ok (.invokevirtual 146, 3) := by decide +kernel
theorem dl_1051 : decode code 1051 = .ok (.aload_n 2, 1) := by decide +kernel
theorem dl_1052 : decode code 1052 = .ok (.aload_n 0, 1) := by decide +kernel
theorem dl_1053 : decode code 1053 = .ok (.iload_n 3, 1) := by decide +kernel
theorem dl_1054 : decode code 1054 = .ok (.iconst 1, 1) := by decide +kernel
theorem dl_1055 : decode code 1055 = .ok (.iadd, 1) := by decide +kernel
theorem dl_1056 : decode code 1056 = .ok (.iaload, 1) := by decide +kernel
theorem dl_1057 : decode code 1057 = .ok (.invokevirtual 149, 3) := by decide +kernel
theorem dl_1060 : decode code 1060 = .ok (.if_icmp .eq 127, 3) := by decide +kernel
theorem dl_1063 : decode code 1063 = .ok (.iconst 0, 1) := by decide +kernel
theorem dl_1064 : decode code 1064 = .ok (.ireturn, 1) := by decide +kernel
theorem dl_1065 : decode code 1065 = .ok (.aload_n 1, 1) := by decide +kernel
theorem dl_1066 : decode code 1066 = .ok (.aload_n 0, 1) := by decide +kernel
theorem dl_1067 : decode code 1067 = .ok (.iload_n 3, 1) := by decide +kernel
theorem dl_1068 : decode code 1068 = .ok (.iconst 1, 1) := by decide +kernel
theorem dl_1069 : decode code 1069 = .ok (.iadd, 1) := by decide +kernel
theorem dl_1070 : decode code 1070 = .ok (.iaload, 1) := by decide +kernel
theorem dl_1071 : decode code 1071 = .ok (.aload_n 0, 1) := by decide +kernel
