theorem zk0 : z_all (zC 0) 11 (z_ck 0) = true := by decide +kernel
theorem zn0 : z_mck zcl lw_tbl (zM 0) 675 80 673 674 = true := by decide +kernel
theorem zk1 : z_all (zC 1) 5 (z_ck 1) = true := by decide +kernel
theorem zn1 : z_mck zcl lw_tbl (zM 1) 345 80 343 344 = true := by decide +kernel
theorem zk2 : z_all (zC 2) 23 (z_ck 2) = true := by decide +kernel
theorem zn2 : z_mck zcl lw_tbl (zM 2) 361 80 359 360 = true := by decide +kernel
theorem zk3 : z_all (zC 3) 37 (z_ck 3) = true := by decide +kernel
theorem zn3 : z_mck zcl lw_tbl (zM 3) 353 80 351 352 = true := by decide +kernel
theorem zk4 : z_all (zC 4) 29 (z_ck 4) = true := by decide +kernel
theorem zn4 : z_mck zcl lw_tbl (zM 4) 349 80 347 348 = true := by decide +kernel
theorem zk5 : z_all (zC 5) 43 (z_ck 5) = true := by decide +kernel
theorem zn5 : z_mck zcl lw_tbl (zM 5) 696 80 694 695 = true := by decide +kernel
theorem zk6 : z_all (zC 6) 36 (z_ck 6) = true := by decide +kernel
theorem zn6 : z_mck zcl lw_tbl (zM 6) 699 80 698 0 = true := by decide +kernel
theorem zk7 : z_all (zC 7) 6 (z_ck 7) = true := by decide +kernel
theorem zn7 : z_mck zcl lw_tbl (zM 7) 473 80 471 472 = true := by decide +kernel
theorem zk8 : z_all (zC 8) 19 (z_ck 8) = true := by decide +kernel
theorem zn8 : z_mck zcl lw_tbl (zM 8) 481 80 479 480 = true := by decide +kernel
theorem zk9 : z_all (zC 9) 42 (z_ck 9) = true := by decide +kernel
theorem zn9 : z_mck zcl lw_tbl (zM 9) 486 80 484 485 = true := by decide +kernel
theorem zk10 : z_all (zC 10) 42 (z_ck 10) = true := by decide +kernel
theorem zn10 : z_mck zcl lw_tbl (zM 10) 477 80 475 476 = true := by decide +kernel
theorem zk11 : z_all (zC 11) 63 (z_ck 11) = true := by decide +kernel
theorem zn11 : z_mck zcl lw_tbl (zM 11) 507 80 505 506 = true := by decide +kernel
theorem zk12 : z_all (zC 12) 5 (z_ck 12) = true := by decide +kernel
theorem zn12 : z_mck zcl lw_tbl (zM 12) 373 84 371 372 = true := by decide +kernel
theorem zk13 : z_all (zC 13) 6 (z_ck 13) = true := by decide +kernel
theorem zn13 : z_mck zcl lw_tbl (zM 13) 831 84 829 830 = true := by decide +kernel
theorem zk14 : z_all (zC 14) 6 (z_ck 14) = true := by decide +kernel
theorem zn14 : z_mck zcl lw_tbl (zM 14) 381 84 379 380 = true := by decide +kernel
theorem zk15 : z_all (zC 15) 61 (z_ck 15) = true := by decide +kernel
theorem zn15 : z_mck zcl lw_tbl (zM 15) 651 84 649 650 = true := by decide +kernel
theorem zk16 : z_all (zC 16) 42 (z_ck 16) = true := by decide +kernel
theorem zn16 : z_mck zcl lw_tbl (zM 16) 534 83 532 533 = true := by decide +kernel
theorem zk17 : z_all (zC 17) 83 (z_ck 17) = true := by decide +kernel
theorem zn17 : z_mck zcl lw_tbl (zM 17) 659 83 657 658 = true := by decide +kernel
theorem zk18 : z_all (zC 18) 69 (z_ck 18) = true := by decide +kernel
theorem zn18 : z_mck zcl lw_tbl (zM 18) 542 83 540 541 = true := by decide +kernel
theorem zk19 : z_all (zC 19) 95 (z_ck 19) = true := by decide +kernel
theorem zn19 : z_mck zcl lw_tbl (zM 19) 546 83 545 8 = true := by decide +kernel
theorem zk20 : z_all (zC 20) 41 (z_ck 20) = true := by decide +kernel
theorem zn20 : z_mck zcl lw_tbl (zM 20) 553 83 552 9 = true := by decide +kernel
theorem zk21 : z_all (zC 21) 67 (z_ck 21) = true := by decide +kernel
theorem zn21 : z_mck zcl lw_tbl (zM 21) 560 83 559 10 = true := by decide +kernel
theorem zk22 : z_all (zC 22) 24 (z_ck 22) = true := by decide +kernel
theorem zn22 : z_mck zcl lw_tbl (zM 22) 596 83 594 595 = true := by decide +kernel
theorem zk23 : z_all (zC 23) 7 (z_ck 23) = true := by decide +kernel
theorem zn23 : z_mck zcl lw_tbl (zM 23) 600 83 598 599 = true := by decide +kernel
theorem zk24 : z_all (zC 24) 24 (z_ck 24) = true := by decide +kernel
theorem zn24 : z_mck zcl lw_tbl (zM 24) 784 83 782 783 = true := by decide +kernel
theorem zk25 : z_all (zC 25) 28 (z_ck 25) = true := by decide +kernel
theorem zn25 : z_mck zcl lw_tbl (zM 25) 780 83 778 779 = true := by decide +kernel
theorem zk26 : z_all (zC 26) 21 (z_ck 26) = true := by decide +kernel
theorem zn26 : z_mck zcl lw_tbl (zM 26) 752 83 750 751 = true := by decide +kernel
theorem zk27 : z_all (zC 27) 38 (z_ck 27) = true := by decide +kernel
theorem zn27 : z_mck zcl lw_tbl (zM 27) 764 83 762 763 = true := by decide +kernel
theorem zk28 : z_all (zC 28) 17 (z_ck 28) = true := by decide +kernel
theorem zn28 : z_mck zcl lw_tbl (zM 28) 767 83 766 0 = true := by decide +kernel
theorem zk29 : z_all (zC 29) 10 (z_ck 29) = true := by decide +kernel
theorem zn29 : z_mck zcl lw_tbl (zM 29) 820 83 818 819 = true := by decide +kernel
theorem zk30 : z_all (zC 30) 21 (z_ck 30) = true := by decide +kernel
theorem zn30 : z_mck zcl lw_tbl (zM 30) 760 83 758 759 = true := by decide +kernel
theorem zk31 : z_all (zC 31) 56 (z_ck 31) = true := by decide +kernel
theorem zn31 : z_mck zcl lw_tbl (zM 31) 772 83 770 771 = true := by decide +kernel
theorem zk32 : z_all (zC 32) 93 (z_ck 32) = true := by decide +kernel
theorem zn32 : z_mck zcl lw_tbl (zM 32) 859 83 857 858 = true := by decide +kernel
theorem zk33 : z_all (zC 33) 90 (z_ck 33) = true := by decide +kernel
theorem zn33 : z_mck zcl lw_tbl (zM 33) 468 81 466 467 = true := by decide +kernel
theorem zk34 : z_all (zC 34) 85 (z_ck 34) = true := by decide +kernel
theorem zn34 : z_mck zcl lw_tbl (zM 34) 490 81 489 2 = true := by decide +kernel
