theorem zk35 : z_all (zC 35) 58 (z_ck 35) = true := by decide +kernel
theorem zn35 : z_mck zcl lw_tbl (zM 35) 495 81 494 3 = true := by decide +kernel
theorem zk36 : z_all (zC 36) 24 (z_ck 36) = true := by decide +kernel
theorem zn36 : z_mck zcl lw_tbl (zM 36) 499 81 498 0 = true := by decide +kernel
theorem zk37 : z_all (zC 37) 163 (z_ck 37) = true := by decide +kernel
theorem zn37 : z_mck zcl lw_tbl (zM 37) 503 81 502 4 = true := by decide +kernel
theorem zk38 : z_all (zC 38) 67 (z_ck 38) = true := by decide +kernel
theorem zn38 : z_mck zcl lw_tbl (zM 38) 510 81 509 0 = true := by decide +kernel
theorem zk39 : z_all (zC 39) 54 (z_ck 39) = true := by decide +kernel
theorem zn39 : z_mck zcl lw_tbl (zM 39) 514 81 513 0 = true := by decide +kernel
theorem zk40 : z_all (zC 40) 40 (z_ck 40) = true := by decide +kernel
theorem zn40 : z_mck zcl lw_tbl (zM 40) 518 81 517 5 = true := by decide +kernel
theorem zk41 : z_all (zC 41) 41 (z_ck 41) = true := by decide +kernel
theorem zn41 : z_mck zcl lw_tbl (zM 41) 526 81 524 525 = true := by decide +kernel
theorem zk42 : z_all (zC 42) 27 (z_ck 42) = true := by decide +kernel
theorem zn42 : z_mck zcl lw_tbl (zM 42) 605 81 603 604 = true := by decide +kernel
theorem zk43 : z_all (zC 43) 44 (z_ck 43) = true := by decide +kernel
theorem zn43 : z_mck zcl lw_tbl (zM 43) 613 81 612 14 = true := by decide +kernel
theorem zk44 : z_all (zC 44) 14 (z_ck 44) = true := by decide +kernel
theorem zn44 : z_mck zcl lw_tbl (zM 44) 609 81 607 608 = true := by decide +kernel
theorem zk45 : z_all (zC 45) 22 (z_ck 45) = true := by decide +kernel
theorem zn45 : z_mck zcl lw_tbl (zM 45) 622 81 620 621 = true := by decide +kernel
theorem zk46 : z_all (zC 46) 67 (z_ck 46) = true := by decide +kernel
theorem zn46 : z_mck zcl lw_tbl (zM 46) 538 81 536 537 = true := by decide +kernel
theorem zk47 : z_all (zC 47) 79 (z_ck 47) = true := by decide +kernel
theorem zn47 : z_mck zcl lw_tbl (zM 47) 567 82 565 566 = true := by decide +kernel
theorem zk48 : z_all (zC 48) 76 (z_ck 48) = true := by decide +kernel
theorem zn48 : z_mck zcl lw_tbl (zM 48) 574 82 573 11 = true := by decide +kernel
theorem zk49 : z_all (zC 49) 141 (z_ck 49) = true := by decide +kernel
theorem zn49 : z_mck zcl lw_tbl (zM 49) 578 82 577 12 = true := by decide +kernel
theorem zk50 : z_all (zC 50) 32 (z_ck 50) = true := by decide +kernel
theorem zn50 : z_mck zcl lw_tbl (zM 50) 581 82 580 0 = true := by decide +kernel
theorem zk51 : z_all (zC 51) 51 (z_ck 51) = true := by decide +kernel
theorem zn51 : z_mck zcl lw_tbl (zM 51) 585 82 584 13 = true := by decide +kernel
theorem zk52 : z_all (zC 52) 101 (z_ck 52) = true := by decide +kernel
theorem zn52 : z_mck zcl lw_tbl (zM 52) 734 86 732 733 = true := by decide +kernel
theorem zk53 : z_all (zC 53) 93 (z_ck 53) = true := by decide +kernel
theorem zn53 : z_mck zcl lw_tbl (zM 53) 738 86 737 24 = true := by decide +kernel
theorem zk54 : z_all (zC 54) 13 (z_ck 54) = true := by decide +kernel
theorem zn54 : z_mck zcl lw_tbl (zM 54) 742 86 741 25 = true := by decide +kernel
theorem zk55 : z_all (zC 55) 13 (z_ck 55) = true := by decide +kernel
theorem zn55 : z_mck zcl lw_tbl (zM 55) 746 86 745 26 = true := by decide +kernel
theorem zk56 : z_all (zC 56) 91 (z_ck 56) = true := by decide +kernel
theorem zn56 : z_mck zcl lw_tbl (zM 56) 756 86 755 27 = true := by decide +kernel
theorem zk57 : z_all (zC 57) 106 (z_ck 57) = true := by decide +kernel
theorem zn57 : z_mck zcl lw_tbl (zM 57) 776 86 775 28 = true := by decide +kernel
