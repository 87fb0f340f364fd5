def zC (mi pc : Nat) : Option z_I := cond (Nat.blt mi 154) (cond (Nat.blt mi 77) (cond (Nat.blt mi 38) (cond (Nat.blt mi 19) (cond (Nat.blt mi 9) (cond (Nat.blt mi 4) (cond (Nat.blt mi 2) (cond (Nat.blt mi 1) (zc0 pc) (zc1 pc)) (cond (Nat.blt mi 3) (zc2 pc) (zc3 pc))) (cond (Nat.blt mi 6) (cond (Nat.blt mi 5) (zc4 pc) (zc5 pc)) (cond (Nat.blt mi 7) (zc6 pc) (cond (Nat.blt mi 8) (zc7 pc) (zc8 pc))))) (cond (Nat.blt mi 14) (cond (Nat.blt mi 11) (cond (Nat.blt mi 10) (zc9 pc) (zc10 pc)) (cond (Nat.blt mi 12) (zc11 pc) (cond (Nat.blt mi 13) (zc12 pc) (zc13 pc)))) (cond (Nat.blt mi 16) (cond (Nat.blt mi 15) (zc14 pc) (zc15 pc)) (cond (Nat.blt mi 17) (zc16 pc) (cond (Nat.blt mi 18) (zc17 pc) (zc18 pc)))))) (cond (Nat.blt mi 28) (cond (Nat.blt mi 23) (cond (Nat.blt mi 21) (cond (Nat.blt mi 20) (zc19 pc) (zc20 pc)) (cond (Nat.blt mi 22) (zc21 pc) (zc22 pc))) (cond (Nat.blt mi 25) (cond (Nat.blt mi 24) (zc23 pc) (zc24 pc)) (cond (Nat.blt mi 26) (zc25 pc) (cond (Nat.blt mi 27) (zc26 pc) (zc27 pc))))) (cond (Nat.blt mi 33) (cond (Nat.blt mi 30) (cond (Nat.blt mi 29) (zc28 pc) (zc29 pc)) (cond (Nat.blt mi 31) (zc30 pc) (cond (Nat.blt mi 32) (zc31 pc) (zc32 pc)))) (cond (Nat.blt mi 35) (cond (Nat.blt mi 34) (zc33 pc) (zc34 pc)) (cond (Nat.blt mi 36) (zc35 pc) (cond (Nat.blt mi 37) (zc36 pc) (zc37 pc))))))) (cond (Nat.blt mi 57) (cond (Nat.blt mi 47) (cond (Nat.blt mi 42) (cond (Nat.blt mi 40) (cond (Nat.blt mi 39) (zc38 pc) (zc39 pc)) (cond (Nat.blt mi 41) (zc40 pc) (zc41 pc))) (cond (Nat.blt mi 44) (cond (Nat.blt mi 43) (zc42 pc) (zc43 pc)) (cond (Nat.blt mi 45) (zc44 pc) (cond (Nat.blt mi 46) (zc45 pc) (zc46 pc))))) (cond (Nat.blt mi 52) (cond (Nat.blt mi 49) (cond (Nat.blt mi 48) (zc47 pc) (zc48 pc)) (cond (Nat.blt mi 50) (zc49 pc) (cond (Nat.blt mi 51) (zc50 pc) (zc51 pc)))) (cond (Nat.blt mi 54) (cond (Nat.blt mi 53) (zc52 pc) (zc53 pc)) (cond (Nat.blt mi 55) (zc54 pc) (cond (Nat.blt mi 56) (zc55 pc) (zc56 pc)))))) (cond (Nat.blt mi 67) (cond (Nat.blt mi 62) (cond (Nat.blt mi 59) (cond (Nat.blt mi 58) (zc57 pc) (zc58 pc)) (cond (Nat.blt mi 60) (zc59 pc) (cond (Nat.blt mi 61) (zc60 pc) (zc61 pc)))) (cond (Nat.blt mi 64) (cond (Nat.blt mi 63) (zc62 pc) (zc63 pc)) (cond (Nat.blt mi 65) (zc64 pc) (cond (Nat.blt mi 66) (zc65 pc) (zc66 pc))))) (cond (Nat.blt mi 72) (cond (Nat.blt mi 69) (cond (Nat.blt mi 68) (zc67 pc) (zc68 pc)) (cond (Nat.blt mi 70) (zc69 pc) (cond (Nat.blt mi 71) (zc70 pc) (zc71 pc)))) (cond (Nat.blt mi 74) (cond (Nat.blt mi 73) (zc72 pc) (zc73 pc)) (cond (Nat.blt mi 75) (zc74 pc) (cond (Nat.blt mi 76) (zc75 pc) (zc76 pc)))))))) (cond (Nat.blt mi 115) (cond (Nat.blt mi 96) (cond (Nat.blt mi 86) (cond (Nat.blt mi 81) (cond (Nat.blt mi 79) (cond (Nat.blt mi 78) (zc77 pc) (zc78 pc)) (cond (Nat.blt mi 80) (zc79 pc) (zc80 pc))) (cond (Nat.blt mi 83) (cond (Nat.blt mi 82) (zc81 pc) (zc82 pc)) (cond (Nat.blt mi 84) (zc83 pc) (cond (Nat.blt mi 85) (zc84 pc) (zc85 pc))))) (cond (Nat.blt mi 91) (cond (Nat.blt mi 88) (cond (Nat.blt mi 87) (zc86 pc) (zc87 pc)) (cond (Nat.blt mi 89) (zc88 pc) (cond (Nat.blt mi 90) (zc89 pc) (zc90 pc)))) (cond (Nat.blt mi 93) (cond (Nat.blt mi 92) (zc91 pc) (zc92 pc)) (cond (Nat.blt mi 94) (zc93 pc) (cond (Nat.blt mi 95) (zc94 pc) (zc95 pc)))))) (cond (Nat.blt mi 105) (cond (Nat.blt mi 100) (cond (Nat.blt mi 98) (cond (Nat.blt mi 97) (zc96 pc) (zc97 pc)) (cond (Nat.blt mi 99) (zc98 pc) (zc99 pc))) (cond (Nat.blt mi 102) (cond (Nat.blt mi 101) (zc100 pc) (zc101 pc)) (cond (Nat.blt mi 103) (zc102 pc) (cond (Nat.blt mi 104) (zc103 pc) (zc104 pc))))) (cond (Nat.blt mi 110) (cond (Nat.blt mi 107) (cond (Nat.blt mi 106) (zc105 pc) (zc106 pc)) (cond (Nat.blt mi 108) (zc107 pc) (cond (Nat.blt mi 109) (zc108 pc) (zc109 pc)))) (cond (Nat.blt mi 112) (cond (Nat.blt mi 111) (zc110 pc) (zc111 pc)) (cond (Nat.blt mi 113) (zc112 pc) (cond (Nat.blt mi 114) (zc113 pc) (zc114 pc))))))) (cond (Nat.blt mi 134) (cond (Nat.blt mi 124) (cond (Nat.blt mi 119) (cond (Nat.blt mi 117) (cond (Nat.blt mi 116) (zc115 pc) (zc116 pc)) (cond (Nat.blt mi 118) (zc117 pc) (zc118 pc))) (cond (Nat.blt mi 121) (cond (Nat.blt mi 120) (zc119 pc) (zc120 pc)) (cond (Nat.blt mi 122) (zc121 pc) (cond (Nat.blt mi 123) (zc122 pc) (zc123 pc))))) (cond (Nat.blt mi 129) (cond (Nat.blt mi 126) (cond (Nat.blt mi 125) (zc124 pc) (zc125 pc)) (cond (Nat.blt mi 127) (zc126 pc) (cond (Nat.blt mi 128) (zc127 pc) (zc128 pc)))) (cond (Nat.blt mi 131) (cond (Nat.blt mi 130) (zc129 pc) (zc130 pc)) (cond (Nat.blt mi 132) (zc131 pc) (cond (Nat.blt mi 133) (zc132 pc) (zc133 pc)))))) (cond (Nat.blt mi 144) (cond (Nat.blt mi 139) (cond (Nat.blt mi 136) (cond (Nat.blt mi 135) (zc134 pc) (zc135 pc)) (cond (Nat.blt mi 137) (zc136 pc) (cond (Nat.blt mi 138) (zc137 pc) (zc138 pc)))) (cond (Nat.blt mi 141) (cond (Nat.blt mi 140) (zc139 pc) (zc140 pc)) (cond (Nat.blt mi 142) (zc141 pc) (cond (Nat.blt mi 143) (zc142 pc) (zc143 pc))))) (cond (Nat.blt mi 149) (cond (Nat.blt mi 146) (cond (Nat.blt mi 145) (zc144 pc) (zc145 pc)) (cond (Nat.blt mi 147) (zc146 pc) (cond (Nat.blt mi 148) (zc147 pc) (zc148 pc)))) (cond (Nat.blt mi 151) (cond (Nat.blt mi 150) (zc149 pc) (zc150 pc)) (cond (Nat.blt mi 152) (zc151 pc) (cond (Nat.blt mi 153) (zc152 pc) (zc153 pc))))))))) none
def z_all (c : Nat → Option z_I) (n : Nat) (chk : Nat → z_I → Bool) : Bool := (List.range n).all (fun pc => match c pc with
  | none => true
  | some I => chk pc I)
theorem z_all_ok {c : Nat → Option z_I} {n : Nat} {chk : Nat → z_I → Bool} (h : z_all c n chk = true) (hn : ∀ pc, n ≤ pc → c pc = none) : ∀ pc I, c pc = some I → chk pc I = true := by
  intro pc I hI
  have hlt : pc < n := Nat.lt_of_not_le (fun q => by rw [hn pc q] at hI; cases hI)
  have := List.all_eq_true.mp h pc (List.mem_range.mpr hlt)
  rw [hI] at this
  exact this
theorem z_blt {pc n : Nat} {x : Option z_I} (h : n ≤ pc) : cond (Nat.blt pc n) x none = none := by
  have : Nat.blt pc n = false := by
    cases hb : Nat.blt pc n with
    | false => rfl
    | true => have := Nat.le_of_ble_eq_true hb; omega
  rw [this]
  rfl
def z_ck (mi pc : Nat) (I : z_I) : Bool := z_chk zcl zfk znM zM lw_tbl "PrintHouse$Job" "PrintHouse" (zM mi).1.cls (zM mi).2.1 (zM mi).2.2.2.1 (zM mi).2.2.2.2.2.2.1 (zM mi).2.2.2.2.2.2.2 pc I
def z_mck (cl : List vw_C) (Ws : List Jvm.Cond) (mt : z_M) (pc pi ps px : Nat) : Bool :=
  plainName mt.1.cls && decide (mt.1.cls ≠ "java/lang/invoke/MethodHandle" ∧ mt.1.cls ≠ "java/lang/invoke/VarHandle") && decide (Ws[pc]? = some (.code mt.1 mt.2.1 mt.2.2.1 mt.2.2.2.1)) && decide (Ws[pi]? = some (.initialized mt.1.cls)) &&
  decide ((parseMethodDescriptor mt.1.desc).map (fun d => d.parameters.length + (if mt.2.2.2.2.2.1 = 0 then 0 else 1)) = some mt.2.2.2.2.1) &&
  (if mt.2.2.2.2.2.1 = 0 then decide (Ws[ps]? = some (.static mt.1)) else decide (Ws[ps]? = some (.instanceMethod mt.1)) && decide (Ws[px]? = some (.selects mt.1.cls mt.1 mt.1)) && decide (4 ≤ mt.2.2.2.2.2.1) && decide ((cl[mt.2.2.2.2.2.1 - 4]?).map (fun x => x.1) = some mt.1.cls))
theorem z_mck_ok {cl : List vw_C} {Ws Ts : List Jvm.Cond} {mt : z_M} {pc pi ps px : Nat} (hW : ∀ w ∈ Ws, goodWord w = true → w ∈ Ts) (h : z_mck cl Ws mt pc pi ps px = true) : z_MO cl Ts mt := by
  unfold z_mck at h
  simp only [Bool.and_eq_true, decide_eq_true_eq] at h
  obtain ⟨⟨⟨⟨⟨h1, h2⟩, h3⟩, h4⟩, h5⟩, h6⟩ := h
  refine ⟨h1, h2, hW _ (List.mem_of_getElem? h3) rfl, hW _ (List.mem_of_getElem? h4) rfl, ?_, ?_, ?_⟩
  · intro sig hs
    rw [hs] at h5
    exact (Option.some.inj h5).symm
  · intro h0
    rw [if_pos h0, decide_eq_true_eq] at h6
    exact hW _ (List.mem_of_getElem? h6) rfl
  · intro h0
    rw [if_neg h0] at h6
    simp only [Bool.and_eq_true, decide_eq_true_eq] at h6
    obtain ⟨⟨⟨g1, g2⟩, g3⟩, g4⟩ := h6
    refine ⟨hW _ (List.mem_of_getElem? g1) rfl, hW _ (List.mem_of_getElem? g2) rfl, ?_⟩
    cases hc : cl[mt.2.2.2.2.2.1 - 4]? with
    | none => rw [hc] at g4; cases g4
    | some r =>
      rw [hc] at g4
      have e : r.1 = mt.1.cls := Option.some.inj g4
      refine ⟨mt.2.2.2.2.2.1 - 4, r.2.1, r.2.2, by omega, ?_⟩
      rw [hc, ← e]
