theorem zk58 : z_all (zC 58) 70 (z_ck 58) = true := by decide +kernel
theorem zn58 : z_mck zcl lw_tbl (zM 58) 788 86 787 29 = true := by decide +kernel
theorem zk59 : z_all (zC 59) 57 (z_ck 59) = true := by decide +kernel
theorem zn59 : z_mck zcl lw_tbl (zM 59) 792 86 791 30 = true := by decide +kernel
theorem zk60 : z_all (zC 60) 34 (z_ck 60) = true := by decide +kernel
theorem zn60 : z_mck zcl lw_tbl (zM 60) 796 86 795 31 = true := by decide +kernel
theorem zk61 : z_all (zC 61) 49 (z_ck 61) = true := by decide +kernel
theorem zn61 : z_mck zcl lw_tbl (zM 61) 800 86 799 32 = true := by decide +kernel
theorem zk62 : z_all (zC 62) 96 (z_ck 62) = true := by decide +kernel
theorem zn62 : z_mck zcl lw_tbl (zM 62) 804 86 803 33 = true := by decide +kernel
theorem zk63 : z_all (zC 63) 42 (z_ck 63) = true := by decide +kernel
theorem zn63 : z_mck zcl lw_tbl (zM 63) 808 86 807 34 = true := by decide +kernel
theorem zk64 : z_all (zC 64) 38 (z_ck 64) = true := by decide +kernel
theorem zn64 : z_mck zcl lw_tbl (zM 64) 812 86 811 35 = true := by decide +kernel
theorem zk65 : z_all (zC 65) 55 (z_ck 65) = true := by decide +kernel
theorem zn65 : z_mck zcl lw_tbl (zM 65) 816 86 815 36 = true := by decide +kernel
theorem zk66 : z_all (zC 66) 38 (z_ck 66) = true := by decide +kernel
theorem zn66 : z_mck zcl lw_tbl (zM 66) 626 85 624 625 = true := by decide +kernel
theorem zk67 : z_all (zC 67) 23 (z_ck 67) = true := by decide +kernel
theorem zn67 : z_mck zcl lw_tbl (zM 67) 711 85 709 710 = true := by decide +kernel
theorem zk68 : z_all (zC 68) 44 (z_ck 68) = true := by decide +kernel
theorem zn68 : z_mck zcl lw_tbl (zM 68) 592 85 590 591 = true := by decide +kernel
theorem zk69 : z_all (zC 69) 38 (z_ck 69) = true := by decide +kernel
theorem zn69 : z_mck zcl lw_tbl (zM 69) 726 85 724 725 = true := by decide +kernel
theorem zk70 : z_all (zC 70) 57 (z_ck 70) = true := by decide +kernel
theorem zn70 : z_mck zcl lw_tbl (zM 70) 730 85 728 729 = true := by decide +kernel
theorem zk71 : z_all (zC 71) 77 (z_ck 71) = true := by decide +kernel
theorem zn71 : z_mck zcl lw_tbl (zM 71) 684 85 682 683 = true := by decide +kernel
theorem zk72 : z_all (zC 72) 88 (z_ck 72) = true := by decide +kernel
theorem zn72 : z_mck zcl lw_tbl (zM 72) 687 85 686 0 = true := by decide +kernel
theorem zk73 : z_all (zC 73) 73 (z_ck 73) = true := by decide +kernel
theorem zn73 : z_mck zcl lw_tbl (zM 73) 638 85 636 637 = true := by decide +kernel
theorem zk74 : z_all (zC 74) 17 (z_ck 74) = true := by decide +kernel
theorem zn74 : z_mck zcl lw_tbl (zM 74) 667 85 665 666 = true := by decide +kernel
theorem zk75 : z_all (zC 75) 51 (z_ck 75) = true := by decide +kernel
theorem zn75 : z_mck zcl lw_tbl (zM 75) 642 85 641 17 = true := by decide +kernel
theorem zk76 : z_all (zC 76) 34 (z_ck 76) = true := by decide +kernel
theorem zn76 : z_mck zcl lw_tbl (zM 76) 646 85 645 18 = true := by decide +kernel
theorem zk77 : z_all (zC 77) 60 (z_ck 77) = true := by decide +kernel
theorem zn77 : z_mck zcl lw_tbl (zM 77) 655 85 654 19 = true := by decide +kernel
theorem zk78 : z_all (zC 78) 41 (z_ck 78) = true := by decide +kernel
theorem zn78 : z_mck zcl lw_tbl (zM 78) 377 85 375 376 = true := by decide +kernel
theorem zk79 : z_all (zC 79) 39 (z_ck 79) = true := by decide +kernel
theorem zn79 : z_mck zcl lw_tbl (zM 79) 341 79 339 340 = true := by decide +kernel
theorem zk80 : z_all (zC 80) 62 (z_ck 80) = true := by decide +kernel
theorem zn80 : z_mck zcl lw_tbl (zM 80) 393 79 391 392 = true := by decide +kernel
theorem zk81 : z_all (zC 81) 9 (z_ck 81) = true := by decide +kernel
theorem zn81 : z_mck zcl lw_tbl (zM 81) 357 79 355 356 = true := by decide +kernel
theorem zk82 : z_all (zC 82) 89 (z_ck 82) = true := by decide +kernel
theorem zn82 : z_mck zcl lw_tbl (zM 82) 722 79 720 721 = true := by decide +kernel
