theorem zk145 : z_all (zC 145) 211 (z_ck 145) = true := by decide +kernel
theorem zn145 : z_mck zcl lw_tbl (zM 145) 1125 87 1124 67 = true := by decide +kernel
theorem zk146 : z_all (zC 146) 73 (z_ck 146) = true := by decide +kernel
theorem zn146 : z_mck zcl lw_tbl (zM 146) 1121 87 1120 66 = true := by decide +kernel
theorem zk147 : z_all (zC 147) 160 (z_ck 147) = true := by decide +kernel
theorem zn147 : z_mck zcl lw_tbl (zM 147) 1117 87 1115 1116 = true := by decide +kernel
theorem zk148 : z_all (zC 148) 28 (z_ck 148) = true := by decide +kernel
theorem zn148 : z_mck zcl lw_tbl (zM 148) 1169 87 1167 1168 = true := by decide +kernel
theorem zk149 : z_all (zC 149) 41 (z_ck 149) = true := by decide +kernel
theorem zn149 : z_mck zcl lw_tbl (zM 149) 1173 87 1171 1172 = true := by decide +kernel
theorem zk150 : z_all (zC 150) 17 (z_ck 150) = true := by decide +kernel
theorem zn150 : z_mck zcl lw_tbl (zM 150) 1177 87 1175 1176 = true := by decide +kernel
theorem zk151 : z_all (zC 151) 110 (z_ck 151) = true := by decide +kernel
theorem zn151 : z_mck zcl lw_tbl (zM 151) 1181 87 1179 1180 = true := by decide +kernel
theorem zk152 : z_all (zC 152) 96 (z_ck 152) = true := by decide +kernel
theorem zn152 : z_mck zcl lw_tbl (zM 152) 1185 87 1183 1184 = true := by decide +kernel
theorem zk153 : z_all (zC 153) 93 (z_ck 153) = true := by decide +kernel
theorem zn153 : z_mck zcl lw_tbl (zM 153) 1189 87 1187 1188 = true := by decide +kernel
