theorem zk83 : z_all (zC 83) 12 (z_ck 83) = true := by decide +kernel
theorem zn83 : z_mck zcl lw_tbl (zM 83) 365 79 363 364 = true := by decide +kernel
theorem zk84 : z_all (zC 84) 20 (z_ck 84) = true := by decide +kernel
theorem zn84 : z_mck zcl lw_tbl (zM 84) 827 79 825 826 = true := by decide +kernel
theorem zk85 : z_all (zC 85) 28 (z_ck 85) = true := by decide +kernel
theorem zn85 : z_mck zcl lw_tbl (zM 85) 369 79 367 368 = true := by decide +kernel
theorem zk86 : z_all (zC 86) 43 (z_ck 86) = true := by decide +kernel
theorem zn86 : z_mck zcl lw_tbl (zM 86) 839 79 837 838 = true := by decide +kernel
theorem zk87 : z_all (zC 87) 61 (z_ck 87) = true := by decide +kernel
theorem zn87 : z_mck zcl lw_tbl (zM 87) 867 79 865 866 = true := by decide +kernel
theorem zk88 : z_all (zC 88) 110 (z_ck 88) = true := by decide +kernel
theorem zn88 : z_mck zcl lw_tbl (zM 88) 385 79 383 384 = true := by decide +kernel
theorem zk89 : z_all (zC 89) 21 (z_ck 89) = true := by decide +kernel
theorem zn89 : z_mck zcl lw_tbl (zM 89) 397 79 396 0 = true := by decide +kernel
theorem zk90 : z_all (zC 90) 9 (z_ck 90) = true := by decide +kernel
theorem zn90 : z_mck zcl lw_tbl (zM 90) 715 79 714 23 = true := by decide +kernel
theorem zk91 : z_all (zC 91) 154 (z_ck 91) = true := by decide +kernel
theorem zn91 : z_mck zcl lw_tbl (zM 91) 522 79 521 6 = true := by decide +kernel
theorem zk92 : z_all (zC 92) 94 (z_ck 92) = true := by decide +kernel
theorem zn92 : z_mck zcl lw_tbl (zM 92) 530 79 529 7 = true := by decide +kernel
theorem zk93 : z_all (zC 93) 45 (z_ck 93) = true := by decide +kernel
theorem zn93 : z_mck zcl lw_tbl (zM 93) 618 79 617 15 = true := by decide +kernel
theorem zk94 : z_all (zC 94) 79 (z_ck 94) = true := by decide +kernel
theorem zn94 : z_mck zcl lw_tbl (zM 94) 629 79 628 0 = true := by decide +kernel
theorem zk95 : z_all (zC 95) 76 (z_ck 95) = true := by decide +kernel
theorem zn95 : z_mck zcl lw_tbl (zM 95) 634 79 633 16 = true := by decide +kernel
theorem zk96 : z_all (zC 96) 45 (z_ck 96) = true := by decide +kernel
theorem zn96 : z_mck zcl lw_tbl (zM 96) 663 79 662 0 = true := by decide +kernel
theorem zk97 : z_all (zC 97) 124 (z_ck 97) = true := by decide +kernel
theorem zn97 : z_mck zcl lw_tbl (zM 97) 671 79 670 20 = true := by decide +kernel
theorem zk98 : z_all (zC 98) 36 (z_ck 98) = true := by decide +kernel
theorem zn98 : z_mck zcl lw_tbl (zM 98) 680 79 679 21 = true := by decide +kernel
theorem zk99 : z_all (zC 99) 110 (z_ck 99) = true := by decide +kernel
theorem zn99 : z_mck zcl lw_tbl (zM 99) 691 79 690 22 = true := by decide +kernel
theorem zk100 : z_all (zC 100) 5 (z_ck 100) = true := by decide +kernel
theorem zn100 : z_mck zcl lw_tbl (zM 100) 964 87 962 963 = true := by decide +kernel
theorem zk101 : z_all (zC 101) 79 (z_ck 101) = true := by decide +kernel
theorem zn101 : z_mck zcl lw_tbl (zM 101) 968 87 966 967 = true := by decide +kernel
theorem zk102 : z_all (zC 102) 25 (z_ck 102) = true := by decide +kernel
theorem zn102 : z_mck zcl lw_tbl (zM 102) 993 87 992 41 = true := by decide +kernel
theorem zk103 : z_all (zC 103) 80 (z_ck 103) = true := by decide +kernel
theorem zn103 : z_mck zcl lw_tbl (zM 103) 985 87 984 39 = true := by decide +kernel
theorem zk104 : z_all (zC 104) 71 (z_ck 104) = true := by decide +kernel
theorem zn104 : z_mck zcl lw_tbl (zM 104) 1001 87 1000 43 = true := by decide +kernel
theorem zk105 : z_all (zC 105) 69 (z_ck 105) = true := by decide +kernel
theorem zn105 : z_mck zcl lw_tbl (zM 105) 1010 87 1009 45 = true := by decide +kernel
theorem zk106 : z_all (zC 106) 149 (z_ck 106) = true := by decide +kernel
theorem zn106 : z_mck zcl lw_tbl (zM 106) 1005 87 1004 44 = true := by decide +kernel
