theorem zk107 : z_all (zC 107) 343 (z_ck 107) = true := by decide +kernel
theorem zn107 : z_mck zcl lw_tbl (zM 107) 997 87 996 42 = true := by decide +kernel
theorem zk108 : z_all (zC 108) 16 (z_ck 108) = true := by decide +kernel
theorem zn108 : z_mck zcl lw_tbl (zM 108) 1019 87 1018 0 = true := by decide +kernel
theorem zk109 : z_all (zC 109) 396 (z_ck 109) = true := by decide +kernel
theorem zn109 : z_mck zcl lw_tbl (zM 109) 1015 87 1014 46 = true := by decide +kernel
theorem zk110 : z_all (zC 110) 46 (z_ck 110) = true := by decide +kernel
theorem zn110 : z_mck zcl lw_tbl (zM 110) 989 87 988 40 = true := by decide +kernel
theorem zk111 : z_all (zC 111) 183 (z_ck 111) = true := by decide +kernel
theorem zn111 : z_mck zcl lw_tbl (zM 111) 981 87 980 38 = true := by decide +kernel
theorem zk112 : z_all (zC 112) 237 (z_ck 112) = true := by decide +kernel
theorem zn112 : z_mck zcl lw_tbl (zM 112) 1042 87 1041 49 = true := by decide +kernel
theorem zk113 : z_all (zC 113) 85 (z_ck 113) = true := by decide +kernel
theorem zn113 : z_mck zcl lw_tbl (zM 113) 1038 87 1037 48 = true := by decide +kernel
theorem zk114 : z_all (zC 114) 33 (z_ck 114) = true := by decide +kernel
theorem zn114 : z_mck zcl lw_tbl (zM 114) 1054 87 1053 52 = true := by decide +kernel
