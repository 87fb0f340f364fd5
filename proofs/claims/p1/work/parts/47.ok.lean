theorem zk132 : z_all (zC 132) 171 (z_ck 132) = true := by decide +kernel
theorem zn132 : z_mck zcl lw_tbl (zM 132) 1058 87 1057 53 = true := by decide +kernel
theorem zk133 : z_all (zC 133) 205 (z_ck 133) = true := by decide +kernel
theorem zn133 : z_mck zcl lw_tbl (zM 133) 973 87 971 972 = true := by decide +kernel
theorem zk134 : z_all (zC 134) 28 (z_ck 134) = true := by decide +kernel
theorem zn134 : z_mck zcl lw_tbl (zM 134) 1113 87 1111 1112 = true := by decide +kernel
theorem zk135 : z_all (zC 135) 31 (z_ck 135) = true := by decide +kernel
theorem zn135 : z_mck zcl lw_tbl (zM 135) 1133 87 1132 69 = true := by decide +kernel
theorem zk136 : z_all (zC 136) 67 (z_ck 136) = true := by decide +kernel
theorem zn136 : z_mck zcl lw_tbl (zM 136) 1129 87 1128 68 = true := by decide +kernel
theorem zk137 : z_all (zC 137) 46 (z_ck 137) = true := by decide +kernel
theorem zn137 : z_mck zcl lw_tbl (zM 137) 1153 87 1152 74 = true := by decide +kernel
theorem zk138 : z_all (zC 138) 29 (z_ck 138) = true := by decide +kernel
theorem zn138 : z_mck zcl lw_tbl (zM 138) 1149 87 1148 73 = true := by decide +kernel
theorem zk139 : z_all (zC 139) 81 (z_ck 139) = true := by decide +kernel
theorem zn139 : z_mck zcl lw_tbl (zM 139) 1157 87 1156 75 = true := by decide +kernel
theorem zk140 : z_all (zC 140) 59 (z_ck 140) = true := by decide +kernel
theorem zn140 : z_mck zcl lw_tbl (zM 140) 1145 87 1144 72 = true := by decide +kernel
theorem zk141 : z_all (zC 141) 21 (z_ck 141) = true := by decide +kernel
theorem zn141 : z_mck zcl lw_tbl (zM 141) 1137 87 1136 70 = true := by decide +kernel
theorem zk142 : z_all (zC 142) 58 (z_ck 142) = true := by decide +kernel
theorem zn142 : z_mck zcl lw_tbl (zM 142) 1161 87 1160 76 = true := by decide +kernel
theorem zk143 : z_all (zC 143) 198 (z_ck 143) = true := by decide +kernel
theorem zn143 : z_mck zcl lw_tbl (zM 143) 1165 87 1164 77 = true := by decide +kernel
theorem zk144 : z_all (zC 144) 267 (z_ck 144) = true := by decide +kernel
theorem zn144 : z_mck zcl lw_tbl (zM 144) 1141 87 1140 71 = true := by decide +kernel
