/-! the constructors: tables, checks, what they make -/
def ym0 : z_M := (⟨"PrintHouse$Bytes", "<init>", "(I)V"⟩, prog_2_method_1_code, 2, none, 2, 5, 1, 20)
def ym1 : z_M := (⟨"PrintHouse$Disk", "<init>", "()V"⟩, prog_3_method_1_code, 1, none, 1, 9, 1, 20)
def ym2 : z_M := (⟨"PrintHouse$Job", "<init>", "()V"⟩, prog_4_method_1_code, 1, none, 1, 7, 1, 20)
def ym3 : z_M := (⟨"PrintHouse$Message", "<init>", "(LPrintHouse$Bytes;)V"⟩, prog_5_method_1_code, 2, none, 2, 6, 1, 20)
def ym4 : z_M := (⟨"PrintHouse$PageReader", "<init>", "(LPrintHouse$Bytes;)V"⟩, prog_6_method_1_code, 2, none, 2, 8, 1, 20)
def ym5 : z_M := (⟨"PrintHouse$Press", "<init>", "()V"⟩, prog_7_method_1_code, 1, none, 1, 11, 2, 41)
def ym6 : z_M := (⟨"PrintHouse$Spool", "<init>", "(LPrintHouse$Disk;)V"⟩, prog_8_method_1_code, 3, none, 2, 10, 2, 40)
def ym7 : z_M := (⟨"PrintHouse", "<init>", "()V"⟩, prog_1_method_1_code, 1, none, 1, 4, 3, 62)
def ym8 : z_M := (⟨"PrintHouseModel", "<init>", "()V"⟩, prog_10_method_1_code, 1, none, 1, 12, 1, 20)
def yM (i : Nat) : z_M := (cond (Nat.blt i 4) (cond (Nat.blt i 2) (cond (Nat.blt i 1) ym0 ym1) (cond (Nat.blt i 3) ym2 ym3)) (cond (Nat.blt i 6) (cond (Nat.blt i 5) ym4 ym5) (cond (Nat.blt i 7) ym6 (cond (Nat.blt i 8) ym7 ym8))))
-- PrintHouse$Bytes.<init> (I)V
def yc0 (pc : Nat) : Option z_I := cond (Nat.blt pc 12)
  (cond (Nat.blt pc 5)
   (cond (Nat.blt pc 1)
    (cond (Nat.beq pc 0) (some (.aload_n 0, 1, 0, 0, 0, 0, 0, 0)) none)
    (cond (Nat.blt pc 4)
     (cond (Nat.beq pc 1) (some (.invokespecial 3, 3, 0, 0, 1, 107, 0, 0)) none)
     (cond (Nat.beq pc 4) (some (.aload_n 0, 1, 0, 0, 0, 0, 0, 0)) none)))
   (cond (Nat.blt pc 8)
    (cond (Nat.blt pc 6)
     (cond (Nat.beq pc 5) (some (.iload_n 1, 1, 0, 0, 0, 0, 0, 0)) none)
     (cond (Nat.beq pc 6) (some (.newarray .int, 2, 0, 0, 0, 0, 0, 0)) none))
    (cond (Nat.blt pc 11)
     (cond (Nat.beq pc 8) (some (.putfield 9, 3, 1, 0, 2, 216, 0, 0)) none)
     (cond (Nat.beq pc 11) (some (.return_, 1, 0, 0, 0, 0, 0, 0)) none)))) none
-- PrintHouse$Disk.<init> ()V
def yc1 (pc : Nat) : Option z_I := cond (Nat.blt pc 15)
  (cond (Nat.blt pc 6)
   (cond (Nat.blt pc 4)
    (cond (Nat.blt pc 1)
     (cond (Nat.beq pc 0) (some (.aload_n 0, 1, 0, 0, 0, 0, 0, 0)) none)
     (cond (Nat.beq pc 1) (some (.invokespecial 3, 3, 0, 0, 1, 238, 0, 0)) none))
    (cond (Nat.blt pc 5)
     (cond (Nat.beq pc 4) (some (.aload_n 0, 1, 0, 0, 0, 0, 0, 0)) none)
     (cond (Nat.beq pc 5) (some (.iconst 1, 1, 0, 0, 0, 0, 1, 0)) none)))
   (cond (Nat.blt pc 10)
    (cond (Nat.blt pc 9)
     (cond (Nat.beq pc 6) (some (.putfield 9, 3, 5, 2, 1, 486, 0, 0)) none)
     (cond (Nat.beq pc 9) (some (.aload_n 0, 1, 0, 0, 0, 0, 0, 0)) none))
    (cond (Nat.blt pc 11)
     (cond (Nat.beq pc 10) (some (.iconst (-1), 1, 0, 0, 0, 0, (-1), 0)) none)
     (cond (Nat.blt pc 14)
      (cond (Nat.beq pc 11) (some (.putfield 15, 3, 5, 3, 0, 488, 0, 0)) none)
      (cond (Nat.beq pc 14) (some (.return_, 1, 0, 0, 0, 0, 0, 0)) none))))) none
-- PrintHouse$Job.<init> ()V
def yc2 (pc : Nat) : Option z_I := cond (Nat.blt pc 18)
  (cond (Nat.blt pc 9)
   (cond (Nat.blt pc 4)
    (cond (Nat.blt pc 1)
     (cond (Nat.beq pc 0) (some (.aload_n 0, 1, 0, 0, 0, 0, 0, 0)) none)
     (cond (Nat.beq pc 1) (some (.invokespecial 3, 3, 0, 0, 1, 183, 0, 0)) none))
    (cond (Nat.blt pc 5)
     (cond (Nat.beq pc 4) (some (.aload_n 0, 1, 0, 0, 0, 0, 0, 0)) none)
     (cond (Nat.blt pc 7)
      (cond (Nat.beq pc 5) (some (.bipush 72, 2, 0, 0, 0, 0, 72, 0)) none)
      (cond (Nat.beq pc 7) (some (.newarray .int, 2, 0, 0, 0, 0, 0, 0)) none))))
   (cond (Nat.blt pc 13)
    (cond (Nat.blt pc 12)
     (cond (Nat.beq pc 9) (some (.putfield 9, 3, 3, 0, 2, 368, 0, 0)) none)
     (cond (Nat.beq pc 12) (some (.aload_n 0, 1, 0, 0, 0, 0, 0, 0)) none))
    (cond (Nat.blt pc 14)
     (cond (Nat.beq pc 13) (some (.iconst 1, 1, 0, 0, 0, 0, 1, 0)) none)
     (cond (Nat.blt pc 17)
      (cond (Nat.beq pc 14) (some (.putfield 15, 3, 3, 5, 0, 394, 0, 0)) none)
      (cond (Nat.beq pc 17) (some (.return_, 1, 0, 0, 0, 0, 0, 0)) none))))) none
-- PrintHouse$Message.<init> (LPrintHouse$Bytes;)V
def yc3 (pc : Nat) : Option z_I := cond (Nat.blt pc 34)
  (cond (Nat.blt pc 17)
   (cond (Nat.blt pc 6)
    (cond (Nat.blt pc 4)
     (cond (Nat.blt pc 1)
      (cond (Nat.beq pc 0) (some (.aload_n 0, 1, 0, 0, 0, 0, 0, 0)) none)
      (cond (Nat.beq pc 1) (some (.invokespecial 3, 3, 0, 0, 1, 125, 0, 0)) none))
     (cond (Nat.blt pc 5)
      (cond (Nat.beq pc 4) (some (.aload_n 0, 1, 0, 0, 0, 0, 0, 0)) none)
      (cond (Nat.beq pc 5) (some (.aload_n 1, 1, 0, 0, 0, 0, 0, 0)) none)))
    (cond (Nat.blt pc 10)
     (cond (Nat.blt pc 9)
      (cond (Nat.beq pc 6) (some (.putfield 9, 3, 2, 0, 2, 252, 0, 0)) none)
      (cond (Nat.beq pc 9) (some (.aload_n 0, 1, 0, 0, 0, 0, 0, 0)) none))
     (cond (Nat.blt pc 12)
      (cond (Nat.beq pc 10) (some (.bipush 34, 2, 0, 0, 0, 0, 34, 0)) none)
      (cond (Nat.blt pc 14)
       (cond (Nat.beq pc 12) (some (.newarray .int, 2, 0, 0, 0, 0, 0, 0)) none)
       (cond (Nat.beq pc 14) (some (.putfield 15, 3, 2, 1, 2, 254, 0, 0)) none)))))
   (cond (Nat.blt pc 25)
    (cond (Nat.blt pc 20)
     (cond (Nat.blt pc 18)
      (cond (Nat.beq pc 17) (some (.aload_n 0, 1, 0, 0, 0, 0, 0, 0)) none)
      (cond (Nat.beq pc 18) (some (.bipush 34, 2, 0, 0, 0, 0, 34, 0)) none))
     (cond (Nat.blt pc 22)
      (cond (Nat.beq pc 20) (some (.newarray .long, 2, 0, 0, 0, 0, 0, 0)) none)
      (cond (Nat.beq pc 22) (some (.putfield 19, 3, 2, 2, 2, 256, 0, 0)) none)))
    (cond (Nat.blt pc 28)
     (cond (Nat.blt pc 26)
      (cond (Nat.beq pc 25) (some (.aload_n 0, 1, 0, 0, 0, 0, 0, 0)) none)
      (cond (Nat.beq pc 26) (some (.bipush 34, 2, 0, 0, 0, 0, 34, 0)) none))
     (cond (Nat.blt pc 30)
      (cond (Nat.beq pc 28) (some (.newarray .long, 2, 0, 0, 0, 0, 0, 0)) none)
      (cond (Nat.blt pc 33)
       (cond (Nat.beq pc 30) (some (.putfield 23, 3, 2, 3, 2, 258, 0, 0)) none)
       (cond (Nat.beq pc 33) (some (.return_, 1, 0, 0, 0, 0, 0, 0)) none)))))) none
-- PrintHouse$PageReader.<init> (LPrintHouse$Bytes;)V
def yc4 (pc : Nat) : Option z_I := cond (Nat.blt pc 17)
  (cond (Nat.blt pc 9)
   (cond (Nat.blt pc 4)
    (cond (Nat.blt pc 1)
     (cond (Nat.beq pc 0) (some (.aload_n 0, 1, 0, 0, 0, 0, 0, 0)) none)
     (cond (Nat.beq pc 1) (some (.invokespecial 3, 3, 0, 0, 1, 170, 0, 0)) none))
    (cond (Nat.blt pc 5)
     (cond (Nat.beq pc 4) (some (.aload_n 0, 1, 0, 0, 0, 0, 0, 0)) none)
     (cond (Nat.blt pc 6)
      (cond (Nat.beq pc 5) (some (.aload_n 1, 1, 0, 0, 0, 0, 0, 0)) none)
      (cond (Nat.beq pc 6) (some (.putfield 9, 3, 4, 0, 2, 342, 0, 0)) none))))
   (cond (Nat.blt pc 11)
    (cond (Nat.blt pc 10)
     (cond (Nat.beq pc 9) (some (.aload_n 0, 1, 0, 0, 0, 0, 0, 0)) none)
     (cond (Nat.beq pc 10) (some (.iconst 4, 1, 0, 0, 0, 0, 4, 0)) none))
    (cond (Nat.blt pc 13)
     (cond (Nat.beq pc 11) (some (.newarray .int, 2, 0, 0, 0, 0, 0, 0)) none)
     (cond (Nat.blt pc 16)
      (cond (Nat.beq pc 13) (some (.putfield 15, 3, 4, 1, 2, 344, 0, 0)) none)
      (cond (Nat.beq pc 16) (some (.return_, 1, 0, 0, 0, 0, 0, 0)) none))))) none
-- PrintHouse$Press.<init> ()V
def yc5 (pc : Nat) : Option z_I := cond (Nat.blt pc 27)
  (cond (Nat.blt pc 12)
   (cond (Nat.blt pc 5)
    (cond (Nat.blt pc 1)
     (cond (Nat.beq pc 0) (some (.aload_n 0, 1, 0, 0, 0, 0, 0, 0)) none)
     (cond (Nat.blt pc 4)
      (cond (Nat.beq pc 1) (some (.invokespecial 3, 3, 0, 0, 1, 283, 0, 0)) none)
      (cond (Nat.beq pc 4) (some (.aload_n 0, 1, 0, 0, 0, 0, 0, 0)) none)))
    (cond (Nat.blt pc 8)
     (cond (Nat.beq pc 5) (some (.new 9, 3, 1, 0, 0, 284, 0, 0)) none)
     (cond (Nat.blt pc 9)
      (cond (Nat.beq pc 8) (some (.dup, 1, 0, 0, 0, 0, 0, 0)) none)
      (cond (Nat.beq pc 9) (some (.sipush 256, 3, 0, 0, 0, 0, 256, 0)) none))))
   (cond (Nat.blt pc 19)
    (cond (Nat.blt pc 15)
     (cond (Nat.beq pc 12) (some (.invokespecial 11, 3, 0, 0, 0, 285, 0, 0)) none)
     (cond (Nat.blt pc 18)
      (cond (Nat.beq pc 15) (some (.putfield 14, 3, 7, 0, 2, 572, 0, 0)) none)
      (cond (Nat.beq pc 18) (some (.aload_n 0, 1, 0, 0, 0, 0, 0, 0)) none)))
    (cond (Nat.blt pc 23)
     (cond (Nat.blt pc 21)
      (cond (Nat.beq pc 19) (some (.bipush 48, 2, 0, 0, 0, 0, 48, 0)) none)
      (cond (Nat.beq pc 21) (some (.newarray .int, 2, 0, 0, 0, 0, 0, 0)) none))
     (cond (Nat.blt pc 26)
      (cond (Nat.beq pc 23) (some (.putfield 20, 3, 7, 1, 2, 576, 0, 0)) none)
      (cond (Nat.beq pc 26) (some (.return_, 1, 0, 0, 0, 0, 0, 0)) none))))) none
-- PrintHouse$Spool.<init> (LPrintHouse$Disk;)V
def yc6 (pc : Nat) : Option z_I := cond (Nat.blt pc 51)
  (cond (Nat.blt pc 23)
   (cond (Nat.blt pc 10)
    (cond (Nat.blt pc 5)
     (cond (Nat.blt pc 1)
      (cond (Nat.beq pc 0) (some (.aload_n 0, 1, 0, 0, 0, 0, 0, 0)) none)
      (cond (Nat.blt pc 4)
       (cond (Nat.beq pc 1) (some (.invokespecial 3, 3, 0, 0, 1, 259, 0, 0)) none)
       (cond (Nat.beq pc 4) (some (.aload_n 0, 1, 0, 0, 0, 0, 0, 0)) none)))
     (cond (Nat.blt pc 6)
      (cond (Nat.beq pc 5) (some (.aload_n 1, 1, 0, 0, 0, 0, 0, 0)) none)
      (cond (Nat.blt pc 9)
       (cond (Nat.beq pc 6) (some (.putfield 9, 3, 6, 0, 2, 526, 0, 0)) none)
       (cond (Nat.beq pc 9) (some (.aload_n 0, 1, 0, 0, 0, 0, 0, 0)) none))))
    (cond (Nat.blt pc 18)
     (cond (Nat.blt pc 12)
      (cond (Nat.beq pc 10) (some (.bipush 20, 2, 0, 0, 0, 0, 20, 0)) none)
      (cond (Nat.blt pc 15)
       (cond (Nat.beq pc 12) (some (.anewarray 15, 3, 0, 0, 0, 260, 0, 0)) none)
       (cond (Nat.beq pc 15) (some (.putfield 17, 3, 6, 1, 2, 528, 0, 0)) none)))
     (cond (Nat.blt pc 20)
      (cond (Nat.blt pc 19)
       (cond (Nat.beq pc 18) (some (.iconst 0, 1, 0, 0, 0, 0, 0, 0)) none)
       (cond (Nat.beq pc 19) (some (.istore_n 2, 1, 0, 0, 0, 0, 0, 0)) none))
      (cond (Nat.blt pc 21)
       (cond (Nat.beq pc 20) (some (.iload_n 2, 1, 0, 0, 0, 0, 0, 0)) none)
       (cond (Nat.beq pc 21) (some (.bipush 20, 2, 0, 0, 0, 0, 20, 0)) none)))))
   (cond (Nat.blt pc 38)
    (cond (Nat.blt pc 30)
     (cond (Nat.blt pc 26)
      (cond (Nat.beq pc 23) (some (.if_icmp .ge 22, 3, 45, 0, 0, 0, 0, 0)) none)
      (cond (Nat.blt pc 27)
       (cond (Nat.beq pc 26) (some (.aload_n 0, 1, 0, 0, 0, 0, 0, 0)) none)
       (cond (Nat.beq pc 27) (some (.getfield 17, 3, 6, 1, 2, 528, 0, 0)) none)))
     (cond (Nat.blt pc 34)
      (cond (Nat.blt pc 31)
       (cond (Nat.beq pc 30) (some (.iload_n 2, 1, 0, 0, 0, 0, 0, 0)) none)
       (cond (Nat.beq pc 31) (some (.new 15, 3, 3, 0, 0, 260, 0, 0)) none))
      (cond (Nat.blt pc 35)
       (cond (Nat.beq pc 34) (some (.dup, 1, 0, 0, 0, 0, 0, 0)) none)
       (cond (Nat.beq pc 35) (some (.invokespecial 21, 3, 2, 0, 0, 262, 0, 0)) none))))
    (cond (Nat.blt pc 45)
     (cond (Nat.blt pc 39)
      (cond (Nat.beq pc 38) (some (.aastore, 1, 3, 0, 0, 0, 0, 0)) none)
      (cond (Nat.blt pc 42)
       (cond (Nat.beq pc 39) (some (.iinc 2 1, 3, 0, 0, 0, 0, 1, 0)) none)
       (cond (Nat.beq pc 42) (some (.goto (-22), 3, 20, 0, 0, 0, 0, 0)) none)))
     (cond (Nat.blt pc 47)
      (cond (Nat.blt pc 46)
       (cond (Nat.beq pc 45) (some (.aload_n 0, 1, 0, 0, 0, 0, 0, 0)) none)
       (cond (Nat.beq pc 46) (some (.iconst 1, 1, 0, 0, 0, 0, 1, 0)) none))
      (cond (Nat.blt pc 50)
       (cond (Nat.beq pc 47) (some (.putfield 22, 3, 6, 3, 0, 534, 0, 0)) none)
       (cond (Nat.beq pc 50) (some (.return_, 1, 0, 0, 0, 0, 0, 0)) none)))))) none
-- PrintHouse.<init> ()V
def yc7 (pc : Nat) : Option z_I := cond (Nat.blt pc 111)
  (cond (Nat.blt pc 53)
   (cond (Nat.blt pc 24)
    (cond (Nat.blt pc 12)
     (cond (Nat.blt pc 5)
      (cond (Nat.blt pc 1)
       (cond (Nat.beq pc 0) (some (.aload_n 0, 1, 0, 0, 0, 0, 0, 0)) none)
       (cond (Nat.blt pc 4)
        (cond (Nat.beq pc 1) (some (.invokespecial 3, 3, 0, 0, 1, 99, 0, 0)) none)
        (cond (Nat.beq pc 4) (some (.aload_n 0, 1, 0, 0, 0, 0, 0, 0)) none)))
      (cond (Nat.blt pc 8)
       (cond (Nat.beq pc 5) (some (.new 9, 3, 1, 0, 0, 102, 0, 0)) none)
       (cond (Nat.blt pc 9)
        (cond (Nat.beq pc 8) (some (.dup, 1, 0, 0, 0, 0, 0, 0)) none)
        (cond (Nat.beq pc 9) (some (.sipush 240, 3, 0, 0, 0, 0, 240, 0)) none))))
     (cond (Nat.blt pc 19)
      (cond (Nat.blt pc 15)
       (cond (Nat.beq pc 12) (some (.invokespecial 11, 3, 0, 0, 0, 104, 0, 0)) none)
       (cond (Nat.blt pc 18)
        (cond (Nat.beq pc 15) (some (.putfield 14, 3, 0, 0, 2, 626, 0, 0)) none)
        (cond (Nat.beq pc 18) (some (.aload_n 0, 1, 0, 0, 0, 0, 0, 0)) none)))
      (cond (Nat.blt pc 22)
       (cond (Nat.beq pc 19) (some (.new 18, 3, 2, 0, 0, 120, 0, 0)) none)
       (cond (Nat.blt pc 23)
        (cond (Nat.beq pc 22) (some (.dup, 1, 0, 0, 0, 0, 0, 0)) none)
        (cond (Nat.beq pc 23) (some (.aload_n 0, 1, 0, 0, 0, 0, 0, 0)) none)))))
    (cond (Nat.blt pc 38)
     (cond (Nat.blt pc 33)
      (cond (Nat.blt pc 27)
       (cond (Nat.beq pc 24) (some (.getfield 14, 3, 0, 0, 2, 626, 0, 0)) none)
       (cond (Nat.blt pc 30)
        (cond (Nat.beq pc 27) (some (.invokespecial 20, 3, 3, 0, 0, 122, 0, 0)) none)
        (cond (Nat.beq pc 30) (some (.putfield 23, 3, 0, 1, 2, 628, 0, 0)) none)))
      (cond (Nat.blt pc 34)
       (cond (Nat.beq pc 33) (some (.aload_n 0, 1, 0, 0, 0, 0, 0, 0)) none)
       (cond (Nat.blt pc 37)
        (cond (Nat.beq pc 34) (some (.new 27, 3, 4, 0, 0, 165, 0, 0)) none)
        (cond (Nat.beq pc 37) (some (.dup, 1, 0, 0, 0, 0, 0, 0)) none))))
     (cond (Nat.blt pc 45)
      (cond (Nat.blt pc 39)
       (cond (Nat.beq pc 38) (some (.aload_n 0, 1, 0, 0, 0, 0, 0, 0)) none)
       (cond (Nat.blt pc 42)
        (cond (Nat.beq pc 39) (some (.getfield 14, 3, 0, 0, 2, 626, 0, 0)) none)
        (cond (Nat.beq pc 42) (some (.invokespecial 29, 3, 4, 0, 0, 167, 0, 0)) none)))
      (cond (Nat.blt pc 49)
       (cond (Nat.blt pc 48)
        (cond (Nat.beq pc 45) (some (.putfield 30, 3, 0, 2, 2, 630, 0, 0)) none)
        (cond (Nat.beq pc 48) (some (.aload_n 0, 1, 0, 0, 0, 0, 0, 0)) none))
       (cond (Nat.blt pc 52)
        (cond (Nat.beq pc 49) (some (.new 34, 3, 3, 0, 0, 178, 0, 0)) none)
        (cond (Nat.beq pc 52) (some (.dup, 1, 0, 0, 0, 0, 0, 0)) none))))))
   (cond (Nat.blt pc 82)
    (cond (Nat.blt pc 67)
     (cond (Nat.blt pc 60)
      (cond (Nat.blt pc 56)
       (cond (Nat.beq pc 53) (some (.invokespecial 36, 3, 2, 0, 0, 180, 0, 0)) none)
       (cond (Nat.blt pc 59)
        (cond (Nat.beq pc 56) (some (.putfield 37, 3, 0, 3, 2, 632, 0, 0)) none)
        (cond (Nat.beq pc 59) (some (.aload_n 0, 1, 0, 0, 0, 0, 0, 0)) none)))
      (cond (Nat.blt pc 63)
       (cond (Nat.beq pc 60) (some (.new 41, 3, 5, 0, 0, 233, 0, 0)) none)
       (cond (Nat.blt pc 64)
        (cond (Nat.beq pc 63) (some (.dup, 1, 0, 0, 0, 0, 0, 0)) none)
        (cond (Nat.beq pc 64) (some (.invokespecial 43, 3, 1, 0, 0, 235, 0, 0)) none))))
     (cond (Nat.blt pc 74)
      (cond (Nat.blt pc 70)
       (cond (Nat.beq pc 67) (some (.putfield 44, 3, 0, 4, 2, 634, 0, 0)) none)
       (cond (Nat.blt pc 71)
        (cond (Nat.beq pc 70) (some (.aload_n 0, 1, 0, 0, 0, 0, 0, 0)) none)
        (cond (Nat.beq pc 71) (some (.new 48, 3, 6, 0, 0, 254, 0, 0)) none)))
      (cond (Nat.blt pc 76)
       (cond (Nat.blt pc 75)
        (cond (Nat.beq pc 74) (some (.dup, 1, 0, 0, 0, 0, 0, 0)) none)
        (cond (Nat.beq pc 75) (some (.aload_n 0, 1, 0, 0, 0, 0, 0, 0)) none))
       (cond (Nat.blt pc 79)
        (cond (Nat.beq pc 76) (some (.getfield 44, 3, 0, 4, 2, 634, 0, 0)) none)
        (cond (Nat.beq pc 79) (some (.invokespecial 50, 3, 6, 0, 0, 256, 0, 0)) none)))))
    (cond (Nat.blt pc 96)
     (cond (Nat.blt pc 89)
      (cond (Nat.blt pc 85)
       (cond (Nat.beq pc 82) (some (.putfield 53, 3, 0, 5, 2, 636, 0, 0)) none)
       (cond (Nat.blt pc 86)
        (cond (Nat.beq pc 85) (some (.aload_n 0, 1, 0, 0, 0, 0, 0, 0)) none)
        (cond (Nat.beq pc 86) (some (.new 9, 3, 1, 0, 0, 102, 0, 0)) none)))
      (cond (Nat.blt pc 90)
       (cond (Nat.beq pc 89) (some (.dup, 1, 0, 0, 0, 0, 0, 0)) none)
       (cond (Nat.blt pc 93)
        (cond (Nat.beq pc 90) (some (.sipush 512, 3, 0, 0, 0, 0, 512, 0)) none)
        (cond (Nat.beq pc 93) (some (.invokespecial 11, 3, 0, 0, 0, 104, 0, 0)) none))))
     (cond (Nat.blt pc 103)
      (cond (Nat.blt pc 99)
       (cond (Nat.beq pc 96) (some (.putfield 57, 3, 0, 6, 2, 638, 0, 0)) none)
       (cond (Nat.blt pc 100)
        (cond (Nat.beq pc 99) (some (.aload_n 0, 1, 0, 0, 0, 0, 0, 0)) none)
        (cond (Nat.beq pc 100) (some (.new 60, 3, 7, 0, 0, 278, 0, 0)) none)))
      (cond (Nat.blt pc 107)
       (cond (Nat.blt pc 104)
        (cond (Nat.beq pc 103) (some (.dup, 1, 0, 0, 0, 0, 0, 0)) none)
        (cond (Nat.beq pc 104) (some (.invokespecial 62, 3, 5, 0, 0, 280, 0, 0)) none))
       (cond (Nat.blt pc 110)
        (cond (Nat.beq pc 107) (some (.putfield 63, 3, 0, 7, 2, 640, 0, 0)) none)
        (cond (Nat.beq pc 110) (some (.return_, 1, 0, 0, 0, 0, 0, 0)) none))))))) none
-- PrintHouseModel.<init> ()V
def yc8 (pc : Nat) : Option z_I := cond (Nat.blt pc 81)
  (cond (Nat.blt pc 41)
   (cond (Nat.blt pc 22)
    (cond (Nat.blt pc 10)
     (cond (Nat.blt pc 4)
      (cond (Nat.blt pc 1)
       (cond (Nat.beq pc 0) (some (.aload_n 0, 1, 0, 0, 0, 0, 0, 0)) none)
       (cond (Nat.beq pc 1) (some (.invokespecial 1, 3, 0, 0, 1, 875, 0, 0)) none))
      (cond (Nat.blt pc 5)
       (cond (Nat.beq pc 4) (some (.aload_n 0, 1, 0, 0, 0, 0, 0, 0)) none)
       (cond (Nat.blt pc 8)
        (cond (Nat.beq pc 5) (some (.sipush 240, 3, 0, 0, 0, 0, 240, 0)) none)
        (cond (Nat.beq pc 8) (some (.newarray .int, 2, 0, 0, 0, 0, 0, 0)) none))))
     (cond (Nat.blt pc 14)
      (cond (Nat.blt pc 13)
       (cond (Nat.beq pc 10) (some (.putfield 7, 3, 8, 3, 2, 1758, 0, 0)) none)
       (cond (Nat.beq pc 13) (some (.aload_n 0, 1, 0, 0, 0, 0, 0, 0)) none))
      (cond (Nat.blt pc 17)
       (cond (Nat.beq pc 14) (some (.sipush 260, 3, 0, 0, 0, 0, 260, 0)) none)
       (cond (Nat.blt pc 19)
        (cond (Nat.beq pc 17) (some (.newarray .int, 2, 0, 0, 0, 0, 0, 0)) none)
        (cond (Nat.beq pc 19) (some (.putfield 13, 3, 8, 5, 2, 1762, 0, 0)) none)))))
    (cond (Nat.blt pc 32)
     (cond (Nat.blt pc 26)
      (cond (Nat.blt pc 23)
       (cond (Nat.beq pc 22) (some (.aload_n 0, 1, 0, 0, 0, 0, 0, 0)) none)
       (cond (Nat.beq pc 23) (some (.sipush 1872, 3, 0, 0, 0, 0, 1872, 0)) none))
      (cond (Nat.blt pc 28)
       (cond (Nat.beq pc 26) (some (.newarray .int, 2, 0, 0, 0, 0, 0, 0)) none)
       (cond (Nat.blt pc 31)
        (cond (Nat.beq pc 28) (some (.putfield 16, 3, 8, 6, 2, 1764, 0, 0)) none)
        (cond (Nat.beq pc 31) (some (.aload_n 0, 1, 0, 0, 0, 0, 0, 0)) none))))
     (cond (Nat.blt pc 36)
      (cond (Nat.blt pc 33)
       (cond (Nat.beq pc 32) (some (.iconst 1, 1, 0, 0, 0, 0, 1, 0)) none)
       (cond (Nat.beq pc 33) (some (.putfield 19, 3, 8, 7, 0, 1766, 0, 0)) none))
      (cond (Nat.blt pc 37)
       (cond (Nat.beq pc 36) (some (.aload_n 0, 1, 0, 0, 0, 0, 0, 0)) none)
       (cond (Nat.blt pc 39)
        (cond (Nat.beq pc 37) (some (.bipush 60, 2, 0, 0, 0, 0, 60, 0)) none)
        (cond (Nat.beq pc 39) (some (.newarray .int, 2, 0, 0, 0, 0, 0, 0)) none))))))
   (cond (Nat.blt pc 60)
    (cond (Nat.blt pc 50)
     (cond (Nat.blt pc 45)
      (cond (Nat.blt pc 44)
       (cond (Nat.beq pc 41) (some (.putfield 23, 3, 8, 22, 2, 1796, 0, 0)) none)
       (cond (Nat.beq pc 44) (some (.aload_n 0, 1, 0, 0, 0, 0, 0, 0)) none))
      (cond (Nat.blt pc 46)
       (cond (Nat.beq pc 45) (some (.iconst (-1), 1, 0, 0, 0, 0, (-1), 0)) none)
       (cond (Nat.blt pc 49)
        (cond (Nat.beq pc 46) (some (.putfield 26, 3, 8, 23, 0, 1798, 0, 0)) none)
        (cond (Nat.beq pc 49) (some (.aload_n 0, 1, 0, 0, 0, 0, 0, 0)) none))))
     (cond (Nat.blt pc 55)
      (cond (Nat.blt pc 53)
       (cond (Nat.beq pc 50) (some (.sipush 800, 3, 0, 0, 0, 0, 800, 0)) none)
       (cond (Nat.beq pc 53) (some (.newarray .int, 2, 0, 0, 0, 0, 0, 0)) none))
      (cond (Nat.blt pc 58)
       (cond (Nat.beq pc 55) (some (.putfield 29, 3, 8, 24, 2, 1800, 0, 0)) none)
       (cond (Nat.blt pc 59)
        (cond (Nat.beq pc 58) (some (.aload_n 0, 1, 0, 0, 0, 0, 0, 0)) none)
        (cond (Nat.beq pc 59) (some (.iconst (-1), 1, 0, 0, 0, 0, (-1), 0)) none)))))
    (cond (Nat.blt pc 72)
     (cond (Nat.blt pc 64)
      (cond (Nat.blt pc 63)
       (cond (Nat.beq pc 60) (some (.putfield 32, 3, 8, 25, 0, 1802, 0, 0)) none)
       (cond (Nat.beq pc 63) (some (.aload_n 0, 1, 0, 0, 0, 0, 0, 0)) none))
      (cond (Nat.blt pc 67)
       (cond (Nat.beq pc 64) (some (.sipush 300, 3, 0, 0, 0, 0, 300, 0)) none)
       (cond (Nat.blt pc 69)
        (cond (Nat.beq pc 67) (some (.newarray .int, 2, 0, 0, 0, 0, 0, 0)) none)
        (cond (Nat.beq pc 69) (some (.putfield 35, 3, 8, 26, 2, 1804, 0, 0)) none))))
     (cond (Nat.blt pc 75)
      (cond (Nat.blt pc 73)
       (cond (Nat.beq pc 72) (some (.aload_n 0, 1, 0, 0, 0, 0, 0, 0)) none)
       (cond (Nat.beq pc 73) (some (.bipush 48, 2, 0, 0, 0, 0, 48, 0)) none))
      (cond (Nat.blt pc 77)
       (cond (Nat.beq pc 75) (some (.newarray .int, 2, 0, 0, 0, 0, 0, 0)) none)
       (cond (Nat.blt pc 80)
        (cond (Nat.beq pc 77) (some (.putfield 38, 3, 8, 27, 2, 1806, 0, 0)) none)
        (cond (Nat.beq pc 80) (some (.return_, 1, 0, 0, 0, 0, 0, 0)) none))))))) none
def yC (mi pc : Nat) : Option z_I := cond (Nat.blt mi 9) (cond (Nat.blt mi 4) (cond (Nat.blt mi 2) (cond (Nat.blt mi 1) (yc0 pc) (yc1 pc)) (cond (Nat.blt mi 3) (yc2 pc) (yc3 pc))) (cond (Nat.blt mi 6) (cond (Nat.blt mi 5) (yc4 pc) (yc5 pc)) (cond (Nat.blt mi 7) (yc6 pc) (cond (Nat.blt mi 8) (yc7 pc) (yc8 pc))))) none
def y_ck (mi pc : Nat) (I : z_I) : Bool := y_chk zcl zfk 9 yM lw_tbl "PrintHouse$Job" (yM mi).1.cls (yM mi).2.1 (yM mi).2.2.2.2.2.2.1 (yM mi).2.2.2.2.2.2.2 pc I
def y_mck (Ws : List Jvm.Cond) (mt : z_M) (pc pi ps : Nat) : Bool :=
  plainName mt.1.cls && decide (mt.1.cls ≠ "java/lang/invoke/MethodHandle" ∧ mt.1.cls ≠ "java/lang/invoke/VarHandle") && decide (Ws[pc]? = some (.code mt.1 mt.2.1 mt.2.2.1 mt.2.2.2.1)) && decide (Ws[pi]? = some (.initialized mt.1.cls)) &&
  decide ((parseMethodDescriptor mt.1.desc).map (fun d => d.parameters.length + 1) = some mt.2.2.2.2.1) && decide (Ws[ps]? = some (.instanceMethod mt.1)) && decide (mt.1.name = "<init>") && decide (mt.2.2.2.1 = none)
theorem y_mck_ok {Ws Ts : List Jvm.Cond} {mt : z_M} {pc pi ps : Nat} (hW : ∀ w ∈ Ws, goodWord w = true → w ∈ Ts) (h : y_mck Ws mt pc pi ps = true) : y_MO Ts mt := by
  unfold y_mck at h
  simp only [Bool.and_eq_true, decide_eq_true_eq] at h
  obtain ⟨⟨⟨⟨⟨⟨⟨h1, h2⟩, h3⟩, h4⟩, h5⟩, h6⟩, h7⟩, h8⟩ := h
  refine ⟨h1, h2, hW _ (List.mem_of_getElem? h3) rfl, hW _ (List.mem_of_getElem? h4) rfl, ?_, hW _ (List.mem_of_getElem? h6) rfl, h7, h8⟩
  intro sig hs
  rw [hs] at h5
  exact (Option.some.inj h5).symm
theorem yk0 : z_all (yC 0) 12 (y_ck 0) = true := by decide +kernel
theorem yn0 : y_mck lw_tbl (yM 0) 106 80 105 = true := by decide +kernel
theorem yk1 : z_all (yC 1) 15 (y_ck 1) = true := by decide +kernel
theorem yn1 : y_mck lw_tbl (yM 1) 237 84 236 = true := by decide +kernel
theorem yk2 : z_all (yC 2) 18 (y_ck 2) = true := by decide +kernel
theorem yn2 : y_mck lw_tbl (yM 2) 182 83 181 = true := by decide +kernel
theorem yk3 : z_all (yC 3) 34 (y_ck 3) = true := by decide +kernel
theorem yn3 : y_mck lw_tbl (yM 3) 124 81 123 = true := by decide +kernel
theorem yk4 : z_all (yC 4) 17 (y_ck 4) = true := by decide +kernel
theorem yn4 : y_mck lw_tbl (yM 4) 169 82 168 = true := by decide +kernel
theorem yk5 : z_all (yC 5) 27 (y_ck 5) = true := by decide +kernel
theorem yn5 : y_mck lw_tbl (yM 5) 282 86 281 = true := by decide +kernel
theorem yk6 : z_all (yC 6) 51 (y_ck 6) = true := by decide +kernel
theorem yn6 : y_mck lw_tbl (yM 6) 258 85 257 = true := by decide +kernel
theorem yk7 : z_all (yC 7) 111 (y_ck 7) = true := by decide +kernel
theorem yn7 : y_mck lw_tbl (yM 7) 98 79 97 = true := by decide +kernel
theorem yk8 : z_all (yC 8) 81 (y_ck 8) = true := by decide +kernel
theorem yn8 : y_mck lw_tbl (yM 8) 874 87 873 = true := by decide +kernel
def y_dk (C : String) (T : u_T) (N : Nat) (ks : List Nat) (pi pn : Nat) : Bool := (List.range N).all (fun j => decide ((parseFieldDescriptor (T j).2.2.1).map defaultValue = some (if ks.getD j 0 = 2 then .null else .int 0))) && decide (lw_tbl[pi]? = some (.instantiable C N)) && decide (lw_tbl[pn]? = some (.initialized C))
theorem y_dk_ok {C : String} {T : u_T} {N : Nat} {ks : List Nat} {pi pn : Nat} (h : y_dk C T N ks pi pn = true) : (∀ j, j < N → (parseFieldDescriptor (T j).2.2.1).map defaultValue = some (if ks.getD j 0 = 2 then .null else .int 0)) ∧ Jvm.Cond.instantiable C N ∈ zTs ∧ Jvm.Cond.initialized C ∈ zTs := by
  unfold y_dk at h
  rw [Bool.and_eq_true, Bool.and_eq_true, decide_eq_true_eq, decide_eq_true_eq] at h
  obtain ⟨⟨h1, h2⟩, h3⟩ := h
  exact ⟨fun j hj => by simpa using List.all_eq_true.mp h1 j (List.mem_range.mpr hj), zTs_in _ (List.mem_of_getElem? h2) rfl, zTs_in _ (List.mem_of_getElem? h3) rfl⟩
theorem y_d0 : y_dk "PrintHouse" zT0 8 (zfk 0) 95 79 = true := by decide +kernel
theorem y_d1 : y_dk "PrintHouse$Bytes" zT1 3 (zfk 1) 103 80 = true := by decide +kernel
theorem y_d2 : y_dk "PrintHouse$Message" zT2 11 (zfk 2) 121 81 = true := by decide +kernel
theorem y_d3 : y_dk "PrintHouse$Job" zT3 10 (zfk 3) 179 83 = true := by decide +kernel
theorem y_d4 : y_dk "PrintHouse$PageReader" zT4 2 (zfk 4) 166 82 = true := by decide +kernel
theorem y_d5 : y_dk "PrintHouse$Disk" zT5 4 (zfk 5) 234 84 = true := by decide +kernel
theorem y_d6 : y_dk "PrintHouse$Spool" zT6 4 (zfk 6) 255 85 = true := by decide +kernel
theorem y_d7 : y_dk "PrintHouse$Press" zT7 8 (zfk 7) 279 86 = true := by decide +kernel
theorem y_d8 : y_dk "PrintHouseModel" zT8 28 (zfk 8) 871 87 = true := by decide +kernel
theorem y_dko : ∀ ci C T N, zcl[ci]? = some (C, T, N) → (∀ j, j < N → (parseFieldDescriptor (T j).2.2.1).map defaultValue = some (if (zfk ci).getD j 0 = 2 then .null else .int 0)) ∧ Jvm.Cond.instantiable C N ∈ zTs ∧ Jvm.Cond.initialized C ∈ zTs := by
  intro ci C T N h
  match ci, h with
  | 0, h => cases h; exact y_dk_ok y_d0
  | 1, h => cases h; exact y_dk_ok y_d1
  | 2, h => cases h; exact y_dk_ok y_d2
  | 3, h => cases h; exact y_dk_ok y_d3
  | 4, h => cases h; exact y_dk_ok y_d4
  | 5, h => cases h; exact y_dk_ok y_d5
  | 6, h => cases h; exact y_dk_ok y_d6
  | 7, h => cases h; exact y_dk_ok y_d7
  | 8, h => cases h; exact y_dk_ok y_d8
  | n + 9, h => cases h
theorem y_ac : Jvm.Cond.arrayClass .int ∈ zTs ∧ Jvm.Cond.arrayClass .long ∈ zTs := ⟨zTs_in _ (List.mem_of_getElem? (i := 119) (by decide +kernel)) rfl, zTs_in _ (List.mem_of_getElem? (i := 164) (by decide +kernel)) rfl⟩
theorem y_ob : Jvm.Cond.instanceMethod Lib.objectInit ∈ zTs ∧ Jvm.Cond.code Lib.objectInit ⟨#[0xb1]⟩ 1 none ∈ zTs := ⟨zTs_in _ (List.mem_of_getElem? (i := 100) (by decide +kernel)) rfl, zTs_in _ (List.mem_of_getElem? (i := 101) (by decide +kernel)) rfl⟩
theorem y_mo : ∀ mi, mi < 9 → y_MO zTs (yM mi) := by
  intro mi hm
  rcases Nat.lt_or_ge mi 4 with h2 | h2
  ·
   rcases Nat.lt_or_ge mi 2 with h3 | h3
   ·
    rcases Nat.lt_or_ge mi 1 with h4 | h4
    ·
     have e : mi = 0 := by omega
     subst e
     exact y_mck_ok zTs_in yn0
    ·
     have e : mi = 1 := by omega
     subst e
     exact y_mck_ok zTs_in yn1
   ·
    rcases Nat.lt_or_ge mi 3 with h4 | h4
    ·
     have e : mi = 2 := by omega
     subst e
     exact y_mck_ok zTs_in yn2
    ·
     have e : mi = 3 := by omega
     subst e
     exact y_mck_ok zTs_in yn3
  ·
   rcases Nat.lt_or_ge mi 6 with h3 | h3
   ·
    rcases Nat.lt_or_ge mi 5 with h4 | h4
    ·
     have e : mi = 4 := by omega
     subst e
     exact y_mck_ok zTs_in yn4
    ·
     have e : mi = 5 := by omega
     subst e
     exact y_mck_ok zTs_in yn5
   ·
    rcases Nat.lt_or_ge mi 7 with h4 | h4
    ·
     have e : mi = 6 := by omega
     subst e
     exact y_mck_ok zTs_in yn6
    ·
     rcases Nat.lt_or_ge mi 8 with h5 | h5
     ·
      have e : mi = 7 := by omega
      subst e
      exact y_mck_ok zTs_in yn7
     ·
      have e : mi = 8 := by omega
      subst e
      exact y_mck_ok zTs_in yn8
theorem y_co : ∀ mi, mi < 9 → ∀ pc I, yC mi pc = some I → y_ck mi pc I = true := by
  intro mi hm
  rcases Nat.lt_or_ge mi 4 with h2 | h2
  ·
   rcases Nat.lt_or_ge mi 2 with h3 | h3
   ·
    rcases Nat.lt_or_ge mi 1 with h4 | h4
    ·
     have e : mi = 0 := by omega
     subst e
     exact z_all_ok yk0 (fun pc h => (show yc0 pc = none from z_blt h))
    ·
     have e : mi = 1 := by omega
     subst e
     exact z_all_ok yk1 (fun pc h => (show yc1 pc = none from z_blt h))
   ·
    rcases Nat.lt_or_ge mi 3 with h4 | h4
    ·
     have e : mi = 2 := by omega
     subst e
     exact z_all_ok yk2 (fun pc h => (show yc2 pc = none from z_blt h))
    ·
     have e : mi = 3 := by omega
     subst e
     exact z_all_ok yk3 (fun pc h => (show yc3 pc = none from z_blt h))
  ·
   rcases Nat.lt_or_ge mi 6 with h3 | h3
   ·
    rcases Nat.lt_or_ge mi 5 with h4 | h4
    ·
     have e : mi = 4 := by omega
     subst e
     exact z_all_ok yk4 (fun pc h => (show yc4 pc = none from z_blt h))
    ·
     have e : mi = 5 := by omega
     subst e
     exact z_all_ok yk5 (fun pc h => (show yc5 pc = none from z_blt h))
   ·
    rcases Nat.lt_or_ge mi 7 with h4 | h4
    ·
     have e : mi = 6 := by omega
     subst e
     exact z_all_ok yk6 (fun pc h => (show yc6 pc = none from z_blt h))
    ·
     rcases Nat.lt_or_ge mi 8 with h5 | h5
     ·
      have e : mi = 7 := by omega
      subst e
      exact z_all_ok yk7 (fun pc h => (show yc7 pc = none from z_blt h))
     ·
      have e : mi = 8 := by omega
      subst e
      exact z_all_ok yk8 (fun pc h => (show yc8 pc = none from z_blt h))
theorem y_ok {cA : Nat → ClassId} {tys : List (ClassId × FieldType)} (h1 : tys[0]? = some (cA 0, .int)) (h2 : tys[1]? = some (cA 1, .long)) (h3 : tys[2]? = some (cA 2, .object "PrintHouse$Job")) : y_OK zfk cA zcl tys zTs lw_tbl "PrintHouse$Job" 9 yM yC :=
  ⟨zTs_in, zTs_good, ⟨h1, h2, h3⟩, z_clok, y_dko, y_ac, y_ob, y_mo, fun mi pc I hm hC => y_co mi hm pc I hC⟩
def hC : y_H := [.inl (0, [.inr (.inr (some (0, 1))), .inr (.inr (some (0, 3))), .inr (.inr (some (0, 7))), .inr (.inr (some (0, 9))), .inr (.inr (some (0, 11))), .inr (.inr (some (0, 12))), .inr (.inr (some (0, 54))), .inr (.inr (some (0, 56)))]), .inl (1, [.inr (.inr (some (0, 2))), .inl 0, .inl 0]), .inr (.inl 240), .inl (2, [.inr (.inr (some (0, 1))), .inr (.inr (some (0, 4))), .inr (.inr (some (0, 5))), .inr (.inr (some (0, 6))), .inl 0, .inl 0, .inl 0, .inl 0, .inl 0, .inl 0, .inl 0]), .inr (.inl 34), .inr (.inr (.inl 34)), .inr (.inr (.inl 34)), .inl (4, [.inr (.inr (some (0, 1))), .inr (.inr (some (0, 8)))]), .inr (.inl 4), .inl (3, [.inr (.inr (some (0, 10))), .inl 0, .inl 0, .inl 0, .inl 0, .inl 1, .inl 0, .inl 0, .inl 0, .inl 0]), .inr (.inl 72), .inl (5, [.inl 0, .inl 0, .inl 1, .inl (-1)]), .inl (6, [.inr (.inr (some (0, 11))), .inr (.inr (some (0, 13))), .inl 0, .inl 1]), .inr (.inr (.inr [some 14, some 16, some 18, some 20, some 22, some 24, some 26, some 28, some 30, some 32, some 34, some 36, some 38, some 40, some 42, some 44, some 46, some 48, some 50, some 52])), .inl (3, [.inr (.inr (some (0, 15))), .inl 0, .inl 0, .inl 0, .inl 0, .inl 1, .inl 0, .inl 0, .inl 0, .inl 0]), .inr (.inl 72), .inl (3, [.inr (.inr (some (0, 17))), .inl 0, .inl 0, .inl 0, .inl 0, .inl 1, .inl 0, .inl 0, .inl 0, .inl 0]), .inr (.inl 72), .inl (3, [.inr (.inr (some (0, 19))), .inl 0, .inl 0, .inl 0, .inl 0, .inl 1, .inl 0, .inl 0, .inl 0, .inl 0]), .inr (.inl 72), .inl (3, [.inr (.inr (some (0, 21))), .inl 0, .inl 0, .inl 0, .inl 0, .inl 1, .inl 0, .inl 0, .inl 0, .inl 0]), .inr (.inl 72), .inl (3, [.inr (.inr (some (0, 23))), .inl 0, .inl 0, .inl 0, .inl 0, .inl 1, .inl 0, .inl 0, .inl 0, .inl 0]), .inr (.inl 72), .inl (3, [.inr (.inr (some (0, 25))), .inl 0, .inl 0, .inl 0, .inl 0, .inl 1, .inl 0, .inl 0, .inl 0, .inl 0]), .inr (.inl 72), .inl (3, [.inr (.inr (some (0, 27))), .inl 0, .inl 0, .inl 0, .inl 0, .inl 1, .inl 0, .inl 0, .inl 0, .inl 0]), .inr (.inl 72), .inl (3, [.inr (.inr (some (0, 29))), .inl 0, .inl 0, .inl 0, .inl 0, .inl 1, .inl 0, .inl 0, .inl 0, .inl 0]), .inr (.inl 72), .inl (3, [.inr (.inr (some (0, 31))), .inl 0, .inl 0, .inl 0, .inl 0, .inl 1, .inl 0, .inl 0, .inl 0, .inl 0]), .inr (.inl 72), .inl (3, [.inr (.inr (some (0, 33))), .inl 0, .inl 0, .inl 0, .inl 0, .inl 1, .inl 0, .inl 0, .inl 0, .inl 0]), .inr (.inl 72), .inl (3, [.inr (.inr (some (0, 35))), .inl 0, .inl 0, .inl 0, .inl 0, .inl 1, .inl 0, .inl 0, .inl 0, .inl 0]), .inr (.inl 72), .inl (3, [.inr (.inr (some (0, 37))), .inl 0, .inl 0, .inl 0, .inl 0, .inl 1, .inl 0, .inl 0, .inl 0, .inl 0]), .inr (.inl 72), .inl (3, [.inr (.inr (some (0, 39))), .inl 0, .inl 0, .inl 0, .inl 0, .inl 1, .inl 0, .inl 0, .inl 0, .inl 0]), .inr (.inl 72), .inl (3, [.inr (.inr (some (0, 41))), .inl 0, .inl 0, .inl 0, .inl 0, .inl 1, .inl 0, .inl 0, .inl 0, .inl 0]), .inr (.inl 72), .inl (3, [.inr (.inr (some (0, 43))), .inl 0, .inl 0, .inl 0, .inl 0, .inl 1, .inl 0, .inl 0, .inl 0, .inl 0]), .inr (.inl 72), .inl (3, [.inr (.inr (some (0, 45))), .inl 0, .inl 0, .inl 0, .inl 0, .inl 1, .inl 0, .inl 0, .inl 0, .inl 0]), .inr (.inl 72), .inl (3, [.inr (.inr (some (0, 47))), .inl 0, .inl 0, .inl 0, .inl 0, .inl 1, .inl 0, .inl 0, .inl 0, .inl 0]), .inr (.inl 72), .inl (3, [.inr (.inr (some (0, 49))), .inl 0, .inl 0, .inl 0, .inl 0, .inl 1, .inl 0, .inl 0, .inl 0, .inl 0]), .inr (.inl 72), .inl (3, [.inr (.inr (some (0, 51))), .inl 0, .inl 0, .inl 0, .inl 0, .inl 1, .inl 0, .inl 0, .inl 0, .inl 0]), .inr (.inl 72), .inl (3, [.inr (.inr (some (0, 53))), .inl 0, .inl 0, .inl 0, .inl 0, .inl 1, .inl 0, .inl 0, .inl 0, .inl 0]), .inr (.inl 72), .inl (1, [.inr (.inr (some (0, 55))), .inl 0, .inl 0]), .inr (.inl 512), .inl (7, [.inr (.inr (some (0, 57))), .inr (.inr (some (0, 59))), .inl 0, .inl 0, .inl 0, .inl 0, .inl 0, .inl 0]), .inl (1, [.inr (.inr (some (0, 58))), .inl 0, .inl 0]), .inr (.inl 256), .inr (.inl 48)]
def hC0 : y_H := [.inl (0, [.inr (.inr none), .inr (.inr none), .inr (.inr none), .inr (.inr none), .inr (.inr none), .inr (.inr none), .inr (.inr none), .inr (.inr none)])]
set_option maxRecDepth 1000000 in
set_option maxHeartbeats 4000000 in
theorem hC_run : y_run zfk yM yC 1200 7 (0, [some (.inr (.inr (some (0, 0))))], [], hC0) = some hC := by rfl
def hR : y_H := [.inl (8, [.inl 0, .inl 0, .inl 0, .inr (.inr (some (0, 1))), .inl 0, .inr (.inr (some (0, 2))), .inr (.inr (some (0, 3))), .inl 1, .inl 0, .inl 0, .inl 0, .inl 0, .inl 0, .inl 0, .inl 0, .inl 0, .inl 0, .inl 0, .inl 0, .inl 0, .inl 0, .inl 0, .inr (.inr (some (0, 4))), .inl (-1), .inr (.inr (some (0, 5))), .inl (-1), .inr (.inr (some (0, 6))), .inr (.inr (some (0, 7)))]), .inr (.inl 240), .inr (.inl 260), .inr (.inl 1872), .inr (.inl 60), .inr (.inl 800), .inr (.inl 300), .inr (.inl 48)]
def hR0 : y_H := [.inl (8, [.inl 0, .inl 0, .inl 0, .inr (.inr none), .inl 0, .inr (.inr none), .inr (.inr none), .inl 0, .inl 0, .inl 0, .inl 0, .inl 0, .inl 0, .inl 0, .inl 0, .inl 0, .inl 0, .inl 0, .inl 0, .inl 0, .inl 0, .inl 0, .inr (.inr none), .inl 0, .inr (.inr none), .inl 0, .inr (.inr none), .inr (.inr none)])]
theorem hR_run : y_run zfk yM yC 200 8 (0, [some (.inr (.inr (some (0, 0))))], [], hR0) = some hR := by rfl
