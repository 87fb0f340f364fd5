theorem zk115 : z_all (zC 115) 21 (z_ck 115) = true := by decide +kernel
theorem zn115 : z_mck zcl lw_tbl (zM 115) 1050 87 1049 51 = true := by decide +kernel
theorem zk116 : z_all (zC 116) 49 (z_ck 116) = true := by decide +kernel
theorem zn116 : z_mck zcl lw_tbl (zM 116) 1046 87 1045 50 = true := by decide +kernel
theorem zk117 : z_all (zC 117) 34 (z_ck 117) = true := by decide +kernel
theorem zn117 : z_mck zcl lw_tbl (zM 117) 1030 87 1029 0 = true := by decide +kernel
theorem zk118 : z_all (zC 118) 105 (z_ck 118) = true := by decide +kernel
theorem zn118 : z_mck zcl lw_tbl (zM 118) 1034 87 1033 47 = true := by decide +kernel
theorem zk119 : z_all (zC 119) 196 (z_ck 119) = true := by decide +kernel
theorem zn119 : z_mck zcl lw_tbl (zM 119) 977 87 976 37 = true := by decide +kernel
theorem zk120 : z_all (zC 120) 66 (z_ck 120) = true := by decide +kernel
theorem zn120 : z_mck zcl lw_tbl (zM 120) 1066 87 1065 55 = true := by decide +kernel
theorem zk121 : z_all (zC 121) 76 (z_ck 121) = true := by decide +kernel
theorem zn121 : z_mck zcl lw_tbl (zM 121) 1070 87 1069 56 = true := by decide +kernel
theorem zk122 : z_all (zC 122) 41 (z_ck 122) = true := by decide +kernel
theorem zn122 : z_mck zcl lw_tbl (zM 122) 1074 87 1073 57 = true := by decide +kernel
theorem zk123 : z_all (zC 123) 73 (z_ck 123) = true := by decide +kernel
theorem zn123 : z_mck zcl lw_tbl (zM 123) 1078 87 1077 58 = true := by decide +kernel
theorem zk124 : z_all (zC 124) 59 (z_ck 124) = true := by decide +kernel
theorem zn124 : z_mck zcl lw_tbl (zM 124) 1062 87 1061 54 = true := by decide +kernel
theorem zk125 : z_all (zC 125) 28 (z_ck 125) = true := by decide +kernel
theorem zn125 : z_mck zcl lw_tbl (zM 125) 1082 87 1081 59 = true := by decide +kernel
theorem zk126 : z_all (zC 126) 44 (z_ck 126) = true := by decide +kernel
theorem zn126 : z_mck zcl lw_tbl (zM 126) 1086 87 1085 60 = true := by decide +kernel
theorem zk127 : z_all (zC 127) 61 (z_ck 127) = true := by decide +kernel
theorem zn127 : z_mck zcl lw_tbl (zM 127) 1106 87 1105 65 = true := by decide +kernel
theorem zk128 : z_all (zC 128) 114 (z_ck 128) = true := by decide +kernel
theorem zn128 : z_mck zcl lw_tbl (zM 128) 1102 87 1101 64 = true := by decide +kernel
theorem zk129 : z_all (zC 129) 135 (z_ck 129) = true := by decide +kernel
theorem zn129 : z_mck zcl lw_tbl (zM 129) 1098 87 1097 63 = true := by decide +kernel
theorem zk130 : z_all (zC 130) 50 (z_ck 130) = true := by decide +kernel
theorem zn130 : z_mck zcl lw_tbl (zM 130) 1094 87 1093 62 = true := by decide +kernel
theorem zk131 : z_all (zC 131) 56 (z_ck 131) = true := by decide +kernel
theorem zn131 : z_mck zcl lw_tbl (zM 131) 1090 87 1089 61 = true := by decide +kernel
