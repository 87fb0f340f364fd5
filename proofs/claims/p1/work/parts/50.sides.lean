/-! both sides are in order -/
def zTs : List Jvm.Cond := lw_tbl.filter goodWord
def zNs : List Jvm.Cond := lw_tbl.filter z_nest
theorem zTs_in : ∀ w ∈ lw_tbl, goodWord w = true → w ∈ zTs := fun _ h g => List.mem_filter.mpr ⟨h, g⟩
theorem zNs_in : ∀ w ∈ lw_tbl, z_nest w = true → w ∈ zNs := fun _ h g => List.mem_filter.mpr ⟨h, g⟩
theorem zTs_good : ∀ w ∈ zTs, goodWord w = true := fun _ h => (List.mem_filter.mp h).2
theorem z_nest_on {w : Jvm.Cond} (h : z_nest w = true) : w.onTables = true := by
  cases w <;> first | rfl | (simp [z_nest] at h)
theorem z_nest_mv {w : Jvm.Cond} (h : z_nest w = true) {s U : State} (hW : s.WarmedH U.vm) (hZ : va_Nw w s) : va_Nw w U := by
  cases w <;> first | exact va_Nw.warmF hW hZ | exact va_Nw.warmM hW hZ | (simp [z_nest] at h)
theorem zNs_on : ∀ w ∈ zNs, w.onTables = true := fun _ h => z_nest_on (List.mem_filter.mp h).2
theorem zNs_mv : ∀ w ∈ zNs, ∀ s U : State, s.WarmedH U.vm → va_Nw w s → va_Nw w U := fun _ h _ _ hW hZ => z_nest_mv (List.mem_filter.mp h).2 hW hZ
theorem sCn_nd : sCn.Nodup := by decide +kernel
theorem sRn_nd : sRn.Nodup := by decide +kernel
theorem sCr_8 (g i n : Nat) : sCr g i (n + 8) = sCr g i 8 := by
  unfold sCr
  split <;> rfl
theorem sCr_in : ∀ o ∈ sCn, ∀ k, sCr o.1 o.2 k ∈ sCn := by
  have h : ∀ o ∈ sCn, ∀ k, k < 9 → sCr o.1 o.2 k ∈ sCn := by decide +kernel
  intro o ho k
  by_cases hk : k < 9
  · exact h o ho k hk
  · obtain ⟨n, rfl⟩ : ∃ n, k = n + 8 := ⟨k - 8, by omega⟩
    rw [sCr_8]
    exact h o ho 8 (by omega)
theorem sRr_28 (g i n : Nat) : sRr g i (n + 28) = sRr g i 28 := by
  unfold sRr
  split <;> rfl
theorem sRr_in : ∀ o ∈ sRn, ∀ k, sRr o.1 o.2 k ∈ sRn := by
  have h : ∀ o ∈ sRn, ∀ k, k < 29 → sRr o.1 o.2 k ∈ sRn := by decide +kernel
  intro o ho k
  by_cases hk : k < 29
  · exact h o ho k hk
  · obtain ⟨n, rfl⟩ : ∃ n, k = n + 28 := ⟨k - 28, by omega⟩
    rw [sRr_28]
    exact h o ho 28 (by omega)
def z_lok (C : String) (T : u_T) (N : Nat) (ks ps : List Nat) : Bool :=
  (List.range N).all (fun k => decide (lw_tbl[ps.getD k 0]? = some (u_lay C T k)) && goodWord (u_lay C T k) && (parseFieldDescriptor (T k).2.2.1).isSome && (List.range N).all (fun b => decide (k = b) || decide ((T k).2.1 ≠ (T b).2.1))) && decide (ks.length = N)
theorem z_lok_ok {C : String} {T : u_T} {N : Nat} {ks ps : List Nat} (h : z_lok C T N ks ps = true) :
    (∀ w ∈ u_ws C T N, w ∈ zTs) ∧ ks.length = N ∧ (∃ ty0 : Nat → FieldType, ∀ k, k < N → parseFieldDescriptor (T k).2.2.1 = some (ty0 k)) ∧ (∀ a, a < N → ∀ b, b < N → a ≠ b → (T a).2.1 ≠ (T b).2.1) := by
  unfold z_lok at h
  rw [Bool.and_eq_true, decide_eq_true_eq] at h
  obtain ⟨h, hl⟩ := h
  have key : ∀ k, k < N → lw_tbl[ps.getD k 0]? = some (u_lay C T k) ∧ goodWord (u_lay C T k) = true ∧ (parseFieldDescriptor (T k).2.2.1).isSome = true ∧ ∀ b, b < N → k ≠ b → (T k).2.1 ≠ (T b).2.1 := by
    intro k hk
    have h1 := List.all_eq_true.mp h k (List.mem_range.mpr hk)
    simp only [Bool.and_eq_true, decide_eq_true_eq] at h1
    obtain ⟨⟨⟨a1, a2⟩, a3⟩, a4⟩ := h1
    refine ⟨a1, a2, a3, fun b hb hne => ?_⟩
    have h2 := List.all_eq_true.mp a4 b (List.mem_range.mpr hb)
    simp only [Bool.or_eq_true, decide_eq_true_eq] at h2
    rcases h2 with h2 | h2
    · exact absurd h2 hne
    · exact h2
  refine ⟨fun w hw => ?_, hl, ⟨fun k => (parseFieldDescriptor (T k).2.2.1).getD .int, fun k hk => ?_⟩, fun a ha b hb hne => (key a ha).2.2.2 b hb hne⟩
  · obtain ⟨k, hk, rfl⟩ := List.mem_map.mp hw
    have hk := List.mem_range.mp hk
    exact zTs_in _ (List.mem_of_getElem? (key k hk).1) (key k hk).2.1
  · obtain ⟨t, ht⟩ := Option.isSome_iff_exists.mp (key k hk).2.2.1
    show parseFieldDescriptor (T k).2.2.1 = some ((parseFieldDescriptor (T k).2.2.1).getD .int)
    rw [ht]
    rfl
theorem z_l0 : z_lok "PrintHouse" zT0 8 (zfk 0) [321, 323, 325, 327, 329, 331, 333, 335] = true := by decide +kernel
theorem z_l1 : z_lok "PrintHouse$Bytes" zT1 3 (zfk 1) [112, 114, 116] = true := by decide +kernel
theorem z_l2 : z_lok "PrintHouse$Message" zT2 11 (zfk 2) [141, 143, 145, 147, 149, 151, 153, 155, 157, 159, 161] = true := by decide +kernel
theorem z_l3 : z_lok "PrintHouse$Job" zT3 10 (zfk 3) [212, 214, 216, 218, 220, 222, 224, 226, 228, 230] = true := by decide +kernel
theorem z_l4 : z_lok "PrintHouse$PageReader" zT4 2 (zfk 4) [173, 175] = true := by decide +kernel
theorem z_l5 : z_lok "PrintHouse$Disk" zT5 4 (zfk 5) [245, 247, 249, 251] = true := by decide +kernel
theorem z_l6 : z_lok "PrintHouse$Spool" zT6 4 (zfk 6) [269, 271, 273, 275] = true := by decide +kernel
theorem z_l7 : z_lok "PrintHouse$Press" zT7 8 (zfk 7) [296, 298, 300, 302, 304, 306, 308, 310] = true := by decide +kernel
theorem z_l8 : z_lok "PrintHouseModel" zT8 28 (zfk 8) [904, 906, 908, 910, 912, 914, 916, 918, 920, 922, 924, 926, 928, 930, 932, 934, 936, 938, 940, 942, 944, 946, 948, 950, 952, 954, 956, 958] = true := by decide +kernel
theorem z_clok : z_CL zcl zfk zTs := by
  intro ci C T N h
  match ci, h with
  | 0, h => cases h; exact z_lok_ok z_l0
  | 1, h => cases h; exact z_lok_ok z_l1
  | 2, h => cases h; exact z_lok_ok z_l2
  | 3, h => cases h; exact z_lok_ok z_l3
  | 4, h => cases h; exact z_lok_ok z_l4
  | 5, h => cases h; exact z_lok_ok z_l5
  | 6, h => cases h; exact z_lok_ok z_l6
  | 7, h => cases h; exact z_lok_ok z_l7
  | 8, h => cases h; exact z_lok_ok z_l8
  | n + 9, h => cases h
theorem z_mo : ∀ mi, mi < znM → z_MO zcl zTs (zM mi) := by
  intro mi hm
  have hm : mi < 154 := hm
  rcases Nat.lt_or_ge mi 77 with h2 | h2
  ·
   rcases Nat.lt_or_ge mi 38 with h3 | h3
   ·
    rcases Nat.lt_or_ge mi 19 with h4 | h4
    ·
     rcases Nat.lt_or_ge mi 9 with h5 | h5
     ·
      rcases Nat.lt_or_ge mi 4 with h6 | h6
      ·
       rcases Nat.lt_or_ge mi 2 with h7 | h7
       ·
        rcases Nat.lt_or_ge mi 1 with h8 | h8
        ·
         have e : mi = 0 := by omega
         subst e
         exact z_mck_ok zTs_in zn0
        ·
         have e : mi = 1 := by omega
         subst e
         exact z_mck_ok zTs_in zn1
       ·
        rcases Nat.lt_or_ge mi 3 with h8 | h8
        ·
         have e : mi = 2 := by omega
         subst e
         exact z_mck_ok zTs_in zn2
        ·
         have e : mi = 3 := by omega
         subst e
         exact z_mck_ok zTs_in zn3
      ·
       rcases Nat.lt_or_ge mi 6 with h7 | h7
       ·
        rcases Nat.lt_or_ge mi 5 with h8 | h8
        ·
         have e : mi = 4 := by omega
         subst e
         exact z_mck_ok zTs_in zn4
        ·
         have e : mi = 5 := by omega
         subst e
         exact z_mck_ok zTs_in zn5
       ·
        rcases Nat.lt_or_ge mi 7 with h8 | h8
        ·
         have e : mi = 6 := by omega
         subst e
         exact z_mck_ok zTs_in zn6
        ·
         rcases Nat.lt_or_ge mi 8 with h9 | h9
         ·
          have e : mi = 7 := by omega
          subst e
          exact z_mck_ok zTs_in zn7
         ·
          have e : mi = 8 := by omega
          subst e
          exact z_mck_ok zTs_in zn8
     ·
      rcases Nat.lt_or_ge mi 14 with h6 | h6
      ·
       rcases Nat.lt_or_ge mi 11 with h7 | h7
       ·
        rcases Nat.lt_or_ge mi 10 with h8 | h8
        ·
         have e : mi = 9 := by omega
         subst e
         exact z_mck_ok zTs_in zn9
        ·
         have e : mi = 10 := by omega
         subst e
         exact z_mck_ok zTs_in zn10
       ·
        rcases Nat.lt_or_ge mi 12 with h8 | h8
        ·
         have e : mi = 11 := by omega
         subst e
         exact z_mck_ok zTs_in zn11
        ·
         rcases Nat.lt_or_ge mi 13 with h9 | h9
         ·
          have e : mi = 12 := by omega
          subst e
          exact z_mck_ok zTs_in zn12
         ·
          have e : mi = 13 := by omega
          subst e
          exact z_mck_ok zTs_in zn13
      ·
       rcases Nat.lt_or_ge mi 16 with h7 | h7
       ·
        rcases Nat.lt_or_ge mi 15 with h8 | h8
        ·
         have e : mi = 14 := by omega
         subst e
         exact z_mck_ok zTs_in zn14
        ·
         have e : mi = 15 := by omega
         subst e
         exact z_mck_ok zTs_in zn15
       ·
        rcases Nat.lt_or_ge mi 17 with h8 | h8
        ·
         have e : mi = 16 := by omega
         subst e
         exact z_mck_ok zTs_in zn16
        ·
         rcases Nat.lt_or_ge mi 18 with h9 | h9
         ·
          have e : mi = 17 := by omega
          subst e
          exact z_mck_ok zTs_in zn17
         ·
          have e : mi = 18 := by omega
          subst e
          exact z_mck_ok zTs_in zn18
    ·
     rcases Nat.lt_or_ge mi 28 with h5 | h5
     ·
      rcases Nat.lt_or_ge mi 23 with h6 | h6
      ·
       rcases Nat.lt_or_ge mi 21 with h7 | h7
       ·
        rcases Nat.lt_or_ge mi 20 with h8 | h8
        ·
         have e : mi = 19 := by omega
         subst e
         exact z_mck_ok zTs_in zn19
        ·
         have e : mi = 20 := by omega
         subst e
         exact z_mck_ok zTs_in zn20
       ·
        rcases Nat.lt_or_ge mi 22 with h8 | h8
        ·
         have e : mi = 21 := by omega
         subst e
         exact z_mck_ok zTs_in zn21
        ·
         have e : mi = 22 := by omega
         subst e
         exact z_mck_ok zTs_in zn22
      ·
       rcases Nat.lt_or_ge mi 25 with h7 | h7
       ·
        rcases Nat.lt_or_ge mi 24 with h8 | h8
        ·
         have e : mi = 23 := by omega
         subst e
         exact z_mck_ok zTs_in zn23
        ·
         have e : mi = 24 := by omega
         subst e
         exact z_mck_ok zTs_in zn24
       ·
        rcases Nat.lt_or_ge mi 26 with h8 | h8
        ·
         have e : mi = 25 := by omega
         subst e
         exact z_mck_ok zTs_in zn25
        ·
         rcases Nat.lt_or_ge mi 27 with h9 | h9
         ·
          have e : mi = 26 := by omega
          subst e
          exact z_mck_ok zTs_in zn26
         ·
          have e : mi = 27 := by omega
          subst e
          exact z_mck_ok zTs_in zn27
     ·
      rcases Nat.lt_or_ge mi 33 with h6 | h6
      ·
       rcases Nat.lt_or_ge mi 30 with h7 | h7
       ·
        rcases Nat.lt_or_ge mi 29 with h8 | h8
        ·
         have e : mi = 28 := by omega
         subst e
         exact z_mck_ok zTs_in zn28
        ·
         have e : mi = 29 := by omega
         subst e
         exact z_mck_ok zTs_in zn29
       ·
        rcases Nat.lt_or_ge mi 31 with h8 | h8
        ·
         have e : mi = 30 := by omega
         subst e
         exact z_mck_ok zTs_in zn30
        ·
         rcases Nat.lt_or_ge mi 32 with h9 | h9
         ·
          have e : mi = 31 := by omega
          subst e
          exact z_mck_ok zTs_in zn31
         ·
          have e : mi = 32 := by omega
          subst e
          exact z_mck_ok zTs_in zn32
      ·
       rcases Nat.lt_or_ge mi 35 with h7 | h7
       ·
        rcases Nat.lt_or_ge mi 34 with h8 | h8
        ·
         have e : mi = 33 := by omega
         subst e
         exact z_mck_ok zTs_in zn33
        ·
         have e : mi = 34 := by omega
         subst e
         exact z_mck_ok zTs_in zn34
       ·
        rcases Nat.lt_or_ge mi 36 with h8 | h8
        ·
         have e : mi = 35 := by omega
         subst e
         exact z_mck_ok zTs_in zn35
        ·
         rcases Nat.lt_or_ge mi 37 with h9 | h9
         ·
          have e : mi = 36 := by omega
          subst e
          exact z_mck_ok zTs_in zn36
         ·
          have e : mi = 37 := by omega
          subst e
          exact z_mck_ok zTs_in zn37
   ·
    rcases Nat.lt_or_ge mi 57 with h4 | h4
    ·
     rcases Nat.lt_or_ge mi 47 with h5 | h5
     ·
      rcases Nat.lt_or_ge mi 42 with h6 | h6
      ·
       rcases Nat.lt_or_ge mi 40 with h7 | h7
       ·
        rcases Nat.lt_or_ge mi 39 with h8 | h8
        ·
         have e : mi = 38 := by omega
         subst e
         exact z_mck_ok zTs_in zn38
        ·
         have e : mi = 39 := by omega
         subst e
         exact z_mck_ok zTs_in zn39
       ·
        rcases Nat.lt_or_ge mi 41 with h8 | h8
        ·
         have e : mi = 40 := by omega
         subst e
         exact z_mck_ok zTs_in zn40
        ·
         have e : mi = 41 := by omega
         subst e
         exact z_mck_ok zTs_in zn41
      ·
       rcases Nat.lt_or_ge mi 44 with h7 | h7
       ·
        rcases Nat.lt_or_ge mi 43 with h8 | h8
        ·
         have e : mi = 42 := by omega
         subst e
         exact z_mck_ok zTs_in zn42
        ·
         have e : mi = 43 := by omega
         subst e
         exact z_mck_ok zTs_in zn43
       ·
        rcases Nat.lt_or_ge mi 45 with h8 | h8
        ·
         have e : mi = 44 := by omega
         subst e
         exact z_mck_ok zTs_in zn44
        ·
         rcases Nat.lt_or_ge mi 46 with h9 | h9
         ·
          have e : mi = 45 := by omega
          subst e
          exact z_mck_ok zTs_in zn45
         ·
          have e : mi = 46 := by omega
          subst e
          exact z_mck_ok zTs_in zn46
     ·
      rcases Nat.lt_or_ge mi 52 with h6 | h6
      ·
       rcases Nat.lt_or_ge mi 49 with h7 | h7
       ·
        rcases Nat.lt_or_ge mi 48 with h8 | h8
        ·
         have e : mi = 47 := by omega
         subst e
         exact z_mck_ok zTs_in zn47
        ·
         have e : mi = 48 := by omega
         subst e
         exact z_mck_ok zTs_in zn48
       ·
        rcases Nat.lt_or_ge mi 50 with h8 | h8
        ·
         have e : mi = 49 := by omega
         subst e
         exact z_mck_ok zTs_in zn49
        ·
         rcases Nat.lt_or_ge mi 51 with h9 | h9
         ·
          have e : mi = 50 := by omega
          subst e
          exact z_mck_ok zTs_in zn50
         ·
          have e : mi = 51 := by omega
          subst e
          exact z_mck_ok zTs_in zn51
      ·
       rcases Nat.lt_or_ge mi 54 with h7 | h7
       ·
        rcases Nat.lt_or_ge mi 53 with h8 | h8
        ·
         have e : mi = 52 := by omega
         subst e
         exact z_mck_ok zTs_in zn52
        ·
         have e : mi = 53 := by omega
         subst e
         exact z_mck_ok zTs_in zn53
       ·
        rcases Nat.lt_or_ge mi 55 with h8 | h8
        ·
         have e : mi = 54 := by omega
         subst e
         exact z_mck_ok zTs_in zn54
        ·
         rcases Nat.lt_or_ge mi 56 with h9 | h9
         ·
          have e : mi = 55 := by omega
          subst e
          exact z_mck_ok zTs_in zn55
         ·
          have e : mi = 56 := by omega
          subst e
          exact z_mck_ok zTs_in zn56
    ·
     rcases Nat.lt_or_ge mi 67 with h5 | h5
     ·
      rcases Nat.lt_or_ge mi 62 with h6 | h6
      ·
       rcases Nat.lt_or_ge mi 59 with h7 | h7
       ·
        rcases Nat.lt_or_ge mi 58 with h8 | h8
        ·
         have e : mi = 57 := by omega
         subst e
         exact z_mck_ok zTs_in zn57
        ·
         have e : mi = 58 := by omega
         subst e
         exact z_mck_ok zTs_in zn58
       ·
        rcases Nat.lt_or_ge mi 60 with h8 | h8
        ·
         have e : mi = 59 := by omega
         subst e
         exact z_mck_ok zTs_in zn59
        ·
         rcases Nat.lt_or_ge mi 61 with h9 | h9
         ·
          have e : mi = 60 := by omega
          subst e
          exact z_mck_ok zTs_in zn60
         ·
          have e : mi = 61 := by omega
          subst e
          exact z_mck_ok zTs_in zn61
      ·
       rcases Nat.lt_or_ge mi 64 with h7 | h7
       ·
        rcases Nat.lt_or_ge mi 63 with h8 | h8
        ·
         have e : mi = 62 := by omega
         subst e
         exact z_mck_ok zTs_in zn62
        ·
         have e : mi = 63 := by omega
         subst e
         exact z_mck_ok zTs_in zn63
       ·
        rcases Nat.lt_or_ge mi 65 with h8 | h8
        ·
         have e : mi = 64 := by omega
         subst e
         exact z_mck_ok zTs_in zn64
        ·
         rcases Nat.lt_or_ge mi 66 with h9 | h9
         ·
          have e : mi = 65 := by omega
          subst e
          exact z_mck_ok zTs_in zn65
         ·
          have e : mi = 66 := by omega
          subst e
          exact z_mck_ok zTs_in zn66
     ·
      rcases Nat.lt_or_ge mi 72 with h6 | h6
      ·
       rcases Nat.lt_or_ge mi 69 with h7 | h7
       ·
        rcases Nat.lt_or_ge mi 68 with h8 | h8
        ·
         have e : mi = 67 := by omega
         subst e
         exact z_mck_ok zTs_in zn67
        ·
         have e : mi = 68 := by omega
         subst e
         exact z_mck_ok zTs_in zn68
       ·
        rcases Nat.lt_or_ge mi 70 with h8 | h8
        ·
         have e : mi = 69 := by omega
         subst e
         exact z_mck_ok zTs_in zn69
        ·
         rcases Nat.lt_or_ge mi 71 with h9 | h9
         ·
          have e : mi = 70 := by omega
          subst e
          exact z_mck_ok zTs_in zn70
         ·
          have e : mi = 71 := by omega
          subst e
          exact z_mck_ok zTs_in zn71
      ·
       rcases Nat.lt_or_ge mi 74 with h7 | h7
       ·
        rcases Nat.lt_or_ge mi 73 with h8 | h8
        ·
         have e : mi = 72 := by omega
         subst e
         exact z_mck_ok zTs_in zn72
        ·
         have e : mi = 73 := by omega
         subst e
         exact z_mck_ok zTs_in zn73
       ·
        rcases Nat.lt_or_ge mi 75 with h8 | h8
        ·
         have e : mi = 74 := by omega
         subst e
         exact z_mck_ok zTs_in zn74
        ·
         rcases Nat.lt_or_ge mi 76 with h9 | h9
         ·
          have e : mi = 75 := by omega
          subst e
          exact z_mck_ok zTs_in zn75
         ·
          have e : mi = 76 := by omega
          subst e
          exact z_mck_ok zTs_in zn76
  ·
   rcases Nat.lt_or_ge mi 115 with h3 | h3
   ·
    rcases Nat.lt_or_ge mi 96 with h4 | h4
    ·
     rcases Nat.lt_or_ge mi 86 with h5 | h5
     ·
      rcases Nat.lt_or_ge mi 81 with h6 | h6
      ·
       rcases Nat.lt_or_ge mi 79 with h7 | h7
       ·
        rcases Nat.lt_or_ge mi 78 with h8 | h8
        ·
         have e : mi = 77 := by omega
         subst e
         exact z_mck_ok zTs_in zn77
        ·
         have e : mi = 78 := by omega
         subst e
         exact z_mck_ok zTs_in zn78
       ·
        rcases Nat.lt_or_ge mi 80 with h8 | h8
        ·
         have e : mi = 79 := by omega
         subst e
         exact z_mck_ok zTs_in zn79
        ·
         have e : mi = 80 := by omega
         subst e
         exact z_mck_ok zTs_in zn80
      ·
       rcases Nat.lt_or_ge mi 83 with h7 | h7
       ·
        rcases Nat.lt_or_ge mi 82 with h8 | h8
        ·
         have e : mi = 81 := by omega
         subst e
         exact z_mck_ok zTs_in zn81
        ·
         have e : mi = 82 := by omega
         subst e
         exact z_mck_ok zTs_in zn82
       ·
        rcases Nat.lt_or_ge mi 84 with h8 | h8
        ·
         have e : mi = 83 := by omega
         subst e
         exact z_mck_ok zTs_in zn83
        ·
         rcases Nat.lt_or_ge mi 85 with h9 | h9
         ·
          have e : mi = 84 := by omega
          subst e
          exact z_mck_ok zTs_in zn84
         ·
          have e : mi = 85 := by omega
          subst e
          exact z_mck_ok zTs_in zn85
     ·
      rcases Nat.lt_or_ge mi 91 with h6 | h6
      ·
       rcases Nat.lt_or_ge mi 88 with h7 | h7
       ·
        rcases Nat.lt_or_ge mi 87 with h8 | h8
        ·
         have e : mi = 86 := by omega
         subst e
         exact z_mck_ok zTs_in zn86
        ·
         have e : mi = 87 := by omega
         subst e
         exact z_mck_ok zTs_in zn87
       ·
        rcases Nat.lt_or_ge mi 89 with h8 | h8
        ·
         have e : mi = 88 := by omega
         subst e
         exact z_mck_ok zTs_in zn88
        ·
         rcases Nat.lt_or_ge mi 90 with h9 | h9
         ·
          have e : mi = 89 := by omega
          subst e
          exact z_mck_ok zTs_in zn89
         ·
          have e : mi = 90 := by omega
          subst e
          exact z_mck_ok zTs_in zn90
      ·
       rcases Nat.lt_or_ge mi 93 with h7 | h7
       ·
        rcases Nat.lt_or_ge mi 92 with h8 | h8
        ·
         have e : mi = 91 := by omega
         subst e
         exact z_mck_ok zTs_in zn91
        ·
         have e : mi = 92 := by omega
         subst e
         exact z_mck_ok zTs_in zn92
       ·
        rcases Nat.lt_or_ge mi 94 with h8 | h8
        ·
         have e : mi = 93 := by omega
         subst e
         exact z_mck_ok zTs_in zn93
        ·
         rcases Nat.lt_or_ge mi 95 with h9 | h9
         ·
          have e : mi = 94 := by omega
          subst e
          exact z_mck_ok zTs_in zn94
         ·
          have e : mi = 95 := by omega
          subst e
          exact z_mck_ok zTs_in zn95
    ·
     rcases Nat.lt_or_ge mi 105 with h5 | h5
     ·
      rcases Nat.lt_or_ge mi 100 with h6 | h6
      ·
       rcases Nat.lt_or_ge mi 98 with h7 | h7
       ·
        rcases Nat.lt_or_ge mi 97 with h8 | h8
        ·
         have e : mi = 96 := by omega
         subst e
         exact z_mck_ok zTs_in zn96
        ·
         have e : mi = 97 := by omega
         subst e
         exact z_mck_ok zTs_in zn97
       ·
        rcases Nat.lt_or_ge mi 99 with h8 | h8
        ·
         have e : mi = 98 := by omega
         subst e
         exact z_mck_ok zTs_in zn98
        ·
         have e : mi = 99 := by omega
         subst e
         exact z_mck_ok zTs_in zn99
      ·
       rcases Nat.lt_or_ge mi 102 with h7 | h7
       ·
        rcases Nat.lt_or_ge mi 101 with h8 | h8
        ·
         have e : mi = 100 := by omega
         subst e
         exact z_mck_ok zTs_in zn100
        ·
         have e : mi = 101 := by omega
         subst e
         exact z_mck_ok zTs_in zn101
       ·
        rcases Nat.lt_or_ge mi 103 with h8 | h8
        ·
         have e : mi = 102 := by omega
         subst e
         exact z_mck_ok zTs_in zn102
        ·
         rcases Nat.lt_or_ge mi 104 with h9 | h9
         ·
          have e : mi = 103 := by omega
          subst e
          exact z_mck_ok zTs_in zn103
         ·
          have e : mi = 104 := by omega
          subst e
          exact z_mck_ok zTs_in zn104
     ·
      rcases Nat.lt_or_ge mi 110 with h6 | h6
      ·
       rcases Nat.lt_or_ge mi 107 with h7 | h7
       ·
        rcases Nat.lt_or_ge mi 106 with h8 | h8
        ·
         have e : mi = 105 := by omega
         subst e
         exact z_mck_ok zTs_in zn105
        ·
         have e : mi = 106 := by omega
         subst e
         exact z_mck_ok zTs_in zn106
       ·
        rcases Nat.lt_or_ge mi 108 with h8 | h8
        ·
         have e : mi = 107 := by omega
         subst e
         exact z_mck_ok zTs_in zn107
        ·
         rcases Nat.lt_or_ge mi 109 with h9 | h9
         ·
          have e : mi = 108 := by omega
          subst e
          exact z_mck_ok zTs_in zn108
         ·
          have e : mi = 109 := by omega
          subst e
          exact z_mck_ok zTs_in zn109
      ·
       rcases Nat.lt_or_ge mi 112 with h7 | h7
       ·
        rcases Nat.lt_or_ge mi 111 with h8 | h8
        ·
         have e : mi = 110 := by omega
         subst e
         exact z_mck_ok zTs_in zn110
        ·
         have e : mi = 111 := by omega
         subst e
         exact z_mck_ok zTs_in zn111
       ·
        rcases Nat.lt_or_ge mi 113 with h8 | h8
        ·
         have e : mi = 112 := by omega
         subst e
         exact z_mck_ok zTs_in zn112
        ·
         rcases Nat.lt_or_ge mi 114 with h9 | h9
         ·
          have e : mi = 113 := by omega
          subst e
          exact z_mck_ok zTs_in zn113
         ·
          have e : mi = 114 := by omega
          subst e
          exact z_mck_ok zTs_in zn114
   ·
    rcases Nat.lt_or_ge mi 134 with h4 | h4
    ·
     rcases Nat.lt_or_ge mi 124 with h5 | h5
     ·
      rcases Nat.lt_or_ge mi 119 with h6 | h6
      ·
       rcases Nat.lt_or_ge mi 117 with h7 | h7
       ·
        rcases Nat.lt_or_ge mi 116 with h8 | h8
        ·
         have e : mi = 115 := by omega
         subst e
         exact z_mck_ok zTs_in zn115
        ·
         have e : mi = 116 := by omega
         subst e
         exact z_mck_ok zTs_in zn116
       ·
        rcases Nat.lt_or_ge mi 118 with h8 | h8
        ·
         have e : mi = 117 := by omega
         subst e
         exact z_mck_ok zTs_in zn117
        ·
         have e : mi = 118 := by omega
         subst e
         exact z_mck_ok zTs_in zn118
      ·
       rcases Nat.lt_or_ge mi 121 with h7 | h7
       ·
        rcases Nat.lt_or_ge mi 120 with h8 | h8
        ·
         have e : mi = 119 := by omega
         subst e
         exact z_mck_ok zTs_in zn119
        ·
         have e : mi = 120 := by omega
         subst e
         exact z_mck_ok zTs_in zn120
       ·
        rcases Nat.lt_or_ge mi 122 with h8 | h8
        ·
         have e : mi = 121 := by omega
         subst e
         exact z_mck_ok zTs_in zn121
        ·
         rcases Nat.lt_or_ge mi 123 with h9 | h9
         ·
          have e : mi = 122 := by omega
          subst e
          exact z_mck_ok zTs_in zn122
         ·
          have e : mi = 123 := by omega
          subst e
          exact z_mck_ok zTs_in zn123
     ·
      rcases Nat.lt_or_ge mi 129 with h6 | h6
      ·
       rcases Nat.lt_or_ge mi 126 with h7 | h7
       ·
        rcases Nat.lt_or_ge mi 125 with h8 | h8
        ·
         have e : mi = 124 := by omega
         subst e
         exact z_mck_ok zTs_in zn124
        ·
         have e : mi = 125 := by omega
         subst e
         exact z_mck_ok zTs_in zn125
       ·
        rcases Nat.lt_or_ge mi 127 with h8 | h8
        ·
         have e : mi = 126 := by omega
         subst e
         exact z_mck_ok zTs_in zn126
        ·
         rcases Nat.lt_or_ge mi 128 with h9 | h9
         ·
          have e : mi = 127 := by omega
          subst e
          exact z_mck_ok zTs_in zn127
         ·
          have e : mi = 128 := by omega
          subst e
          exact z_mck_ok zTs_in zn128
      ·
       rcases Nat.lt_or_ge mi 131 with h7 | h7
       ·
        rcases Nat.lt_or_ge mi 130 with h8 | h8
        ·
         have e : mi = 129 := by omega
         subst e
         exact z_mck_ok zTs_in zn129
        ·
         have e : mi = 130 := by omega
         subst e
         exact z_mck_ok zTs_in zn130
       ·
        rcases Nat.lt_or_ge mi 132 with h8 | h8
        ·
         have e : mi = 131 := by omega
         subst e
         exact z_mck_ok zTs_in zn131
        ·
         rcases Nat.lt_or_ge mi 133 with h9 | h9
         ·
          have e : mi = 132 := by omega
          subst e
          exact z_mck_ok zTs_in zn132
         ·
          have e : mi = 133 := by omega
          subst e
          exact z_mck_ok zTs_in zn133
    ·
     rcases Nat.lt_or_ge mi 144 with h5 | h5
     ·
      rcases Nat.lt_or_ge mi 139 with h6 | h6
      ·
       rcases Nat.lt_or_ge mi 136 with h7 | h7
       ·
        rcases Nat.lt_or_ge mi 135 with h8 | h8
        ·
         have e : mi = 134 := by omega
         subst e
         exact z_mck_ok zTs_in zn134
        ·
         have e : mi = 135 := by omega
         subst e
         exact z_mck_ok zTs_in zn135
       ·
        rcases Nat.lt_or_ge mi 137 with h8 | h8
        ·
         have e : mi = 136 := by omega
         subst e
         exact z_mck_ok zTs_in zn136
        ·
         rcases Nat.lt_or_ge mi 138 with h9 | h9
         ·
          have e : mi = 137 := by omega
          subst e
          exact z_mck_ok zTs_in zn137
         ·
          have e : mi = 138 := by omega
          subst e
          exact z_mck_ok zTs_in zn138
      ·
       rcases Nat.lt_or_ge mi 141 with h7 | h7
       ·
        rcases Nat.lt_or_ge mi 140 with h8 | h8
        ·
         have e : mi = 139 := by omega
         subst e
         exact z_mck_ok zTs_in zn139
        ·
         have e : mi = 140 := by omega
         subst e
         exact z_mck_ok zTs_in zn140
       ·
        rcases Nat.lt_or_ge mi 142 with h8 | h8
        ·
         have e : mi = 141 := by omega
         subst e
         exact z_mck_ok zTs_in zn141
        ·
         rcases Nat.lt_or_ge mi 143 with h9 | h9
         ·
          have e : mi = 142 := by omega
          subst e
          exact z_mck_ok zTs_in zn142
         ·
          have e : mi = 143 := by omega
          subst e
          exact z_mck_ok zTs_in zn143
     ·
      rcases Nat.lt_or_ge mi 149 with h6 | h6
      ·
       rcases Nat.lt_or_ge mi 146 with h7 | h7
       ·
        rcases Nat.lt_or_ge mi 145 with h8 | h8
        ·
         have e : mi = 144 := by omega
         subst e
         exact z_mck_ok zTs_in zn144
        ·
         have e : mi = 145 := by omega
         subst e
         exact z_mck_ok zTs_in zn145
       ·
        rcases Nat.lt_or_ge mi 147 with h8 | h8
        ·
         have e : mi = 146 := by omega
         subst e
         exact z_mck_ok zTs_in zn146
        ·
         rcases Nat.lt_or_ge mi 148 with h9 | h9
         ·
          have e : mi = 147 := by omega
          subst e
          exact z_mck_ok zTs_in zn147
         ·
          have e : mi = 148 := by omega
          subst e
          exact z_mck_ok zTs_in zn148
      ·
       rcases Nat.lt_or_ge mi 151 with h7 | h7
       ·
        rcases Nat.lt_or_ge mi 150 with h8 | h8
        ·
         have e : mi = 149 := by omega
         subst e
         exact z_mck_ok zTs_in zn149
        ·
         have e : mi = 150 := by omega
         subst e
         exact z_mck_ok zTs_in zn150
       ·
        rcases Nat.lt_or_ge mi 152 with h8 | h8
        ·
         have e : mi = 151 := by omega
         subst e
         exact z_mck_ok zTs_in zn151
        ·
         rcases Nat.lt_or_ge mi 153 with h9 | h9
         ·
          have e : mi = 152 := by omega
          subst e
          exact z_mck_ok zTs_in zn152
         ·
          have e : mi = 153 := by omega
          subst e
          exact z_mck_ok zTs_in zn153
theorem z_co : ∀ mi, mi < znM → ∀ pc I, zC mi pc = some I → z_ck mi pc I = true := by
  intro mi hm
  have hm : mi < 154 := hm
  rcases Nat.lt_or_ge mi 77 with h2 | h2
  ·
   rcases Nat.lt_or_ge mi 38 with h3 | h3
   ·
    rcases Nat.lt_or_ge mi 19 with h4 | h4
    ·
     rcases Nat.lt_or_ge mi 9 with h5 | h5
     ·
      rcases Nat.lt_or_ge mi 4 with h6 | h6
      ·
       rcases Nat.lt_or_ge mi 2 with h7 | h7
       ·
        rcases Nat.lt_or_ge mi 1 with h8 | h8
        ·
         have e : mi = 0 := by omega
         subst e
         exact z_all_ok zk0 (fun pc h => (show zc0 pc = none from z_blt h))
        ·
         have e : mi = 1 := by omega
         subst e
         exact z_all_ok zk1 (fun pc h => (show zc1 pc = none from z_blt h))
       ·
        rcases Nat.lt_or_ge mi 3 with h8 | h8
        ·
         have e : mi = 2 := by omega
         subst e
         exact z_all_ok zk2 (fun pc h => (show zc2 pc = none from z_blt h))
        ·
         have e : mi = 3 := by omega
         subst e
         exact z_all_ok zk3 (fun pc h => (show zc3 pc = none from z_blt h))
      ·
       rcases Nat.lt_or_ge mi 6 with h7 | h7
       ·
        rcases Nat.lt_or_ge mi 5 with h8 | h8
        ·
         have e : mi = 4 := by omega
         subst e
         exact z_all_ok zk4 (fun pc h => (show zc4 pc = none from z_blt h))
        ·
         have e : mi = 5 := by omega
         subst e
         exact z_all_ok zk5 (fun pc h => (show zc5 pc = none from z_blt h))
       ·
        rcases Nat.lt_or_ge mi 7 with h8 | h8
        ·
         have e : mi = 6 := by omega
         subst e
         exact z_all_ok zk6 (fun pc h => (show zc6 pc = none from z_blt h))
        ·
         rcases Nat.lt_or_ge mi 8 with h9 | h9
         ·
          have e : mi = 7 := by omega
          subst e
          exact z_all_ok zk7 (fun pc h => (show zc7 pc = none from z_blt h))
         ·
          have e : mi = 8 := by omega
          subst e
          exact z_all_ok zk8 (fun pc h => (show zc8 pc = none from z_blt h))
     ·
      rcases Nat.lt_or_ge mi 14 with h6 | h6
      ·
       rcases Nat.lt_or_ge mi 11 with h7 | h7
       ·
        rcases Nat.lt_or_ge mi 10 with h8 | h8
        ·
         have e : mi = 9 := by omega
         subst e
         exact z_all_ok zk9 (fun pc h => (show zc9 pc = none from z_blt h))
        ·
         have e : mi = 10 := by omega
         subst e
         exact z_all_ok zk10 (fun pc h => (show zc10 pc = none from z_blt h))
       ·
        rcases Nat.lt_or_ge mi 12 with h8 | h8
        ·
         have e : mi = 11 := by omega
         subst e
         exact z_all_ok zk11 (fun pc h => (show zc11 pc = none from z_blt h))
        ·
         rcases Nat.lt_or_ge mi 13 with h9 | h9
         ·
          have e : mi = 12 := by omega
          subst e
          exact z_all_ok zk12 (fun pc h => (show zc12 pc = none from z_blt h))
         ·
          have e : mi = 13 := by omega
          subst e
          exact z_all_ok zk13 (fun pc h => (show zc13 pc = none from z_blt h))
      ·
       rcases Nat.lt_or_ge mi 16 with h7 | h7
       ·
        rcases Nat.lt_or_ge mi 15 with h8 | h8
        ·
         have e : mi = 14 := by omega
         subst e
         exact z_all_ok zk14 (fun pc h => (show zc14 pc = none from z_blt h))
        ·
         have e : mi = 15 := by omega
         subst e
         exact z_all_ok zk15 (fun pc h => (show zc15 pc = none from z_blt h))
       ·
        rcases Nat.lt_or_ge mi 17 with h8 | h8
        ·
         have e : mi = 16 := by omega
         subst e
         exact z_all_ok zk16 (fun pc h => (show zc16 pc = none from z_blt h))
        ·
         rcases Nat.lt_or_ge mi 18 with h9 | h9
         ·
          have e : mi = 17 := by omega
          subst e
          exact z_all_ok zk17 (fun pc h => (show zc17 pc = none from z_blt h))
         ·
          have e : mi = 18 := by omega
          subst e
          exact z_all_ok zk18 (fun pc h => (show zc18 pc = none from z_blt h))
    ·
     rcases Nat.lt_or_ge mi 28 with h5 | h5
     ·
      rcases Nat.lt_or_ge mi 23 with h6 | h6
      ·
       rcases Nat.lt_or_ge mi 21 with h7 | h7
       ·
        rcases Nat.lt_or_ge mi 20 with h8 | h8
        ·
         have e : mi = 19 := by omega
         subst e
         exact z_all_ok zk19 (fun pc h => (show zc19 pc = none from z_blt h))
        ·
         have e : mi = 20 := by omega
         subst e
         exact z_all_ok zk20 (fun pc h => (show zc20 pc = none from z_blt h))
       ·
        rcases Nat.lt_or_ge mi 22 with h8 | h8
        ·
         have e : mi = 21 := by omega
         subst e
         exact z_all_ok zk21 (fun pc h => (show zc21 pc = none from z_blt h))
        ·
         have e : mi = 22 := by omega
         subst e
         exact z_all_ok zk22 (fun pc h => (show zc22 pc = none from z_blt h))
      ·
       rcases Nat.lt_or_ge mi 25 with h7 | h7
       ·
        rcases Nat.lt_or_ge mi 24 with h8 | h8
        ·
         have e : mi = 23 := by omega
         subst e
         exact z_all_ok zk23 (fun pc h => (show zc23 pc = none from z_blt h))
        ·
         have e : mi = 24 := by omega
         subst e
         exact z_all_ok zk24 (fun pc h => (show zc24 pc = none from z_blt h))
       ·
        rcases Nat.lt_or_ge mi 26 with h8 | h8
        ·
         have e : mi = 25 := by omega
         subst e
         exact z_all_ok zk25 (fun pc h => (show zc25 pc = none from z_blt h))
        ·
         rcases Nat.lt_or_ge mi 27 with h9 | h9
         ·
          have e : mi = 26 := by omega
          subst e
          exact z_all_ok zk26 (fun pc h => (show zc26 pc = none from z_blt h))
         ·
          have e : mi = 27 := by omega
          subst e
          exact z_all_ok zk27 (fun pc h => (show zc27 pc = none from z_blt h))
     ·
      rcases Nat.lt_or_ge mi 33 with h6 | h6
      ·
       rcases Nat.lt_or_ge mi 30 with h7 | h7
       ·
        rcases Nat.lt_or_ge mi 29 with h8 | h8
        ·
         have e : mi = 28 := by omega
         subst e
         exact z_all_ok zk28 (fun pc h => (show zc28 pc = none from z_blt h))
        ·
         have e : mi = 29 := by omega
         subst e
         exact z_all_ok zk29 (fun pc h => (show zc29 pc = none from z_blt h))
       ·
        rcases Nat.lt_or_ge mi 31 with h8 | h8
        ·
         have e : mi = 30 := by omega
         subst e
         exact z_all_ok zk30 (fun pc h => (show zc30 pc = none from z_blt h))
        ·
         rcases Nat.lt_or_ge mi 32 with h9 | h9
         ·
          have e : mi = 31 := by omega
          subst e
          exact z_all_ok zk31 (fun pc h => (show zc31 pc = none from z_blt h))
         ·
          have e : mi = 32 := by omega
          subst e
          exact z_all_ok zk32 (fun pc h => (show zc32 pc = none from z_blt h))
      ·
       rcases Nat.lt_or_ge mi 35 with h7 | h7
       ·
        rcases Nat.lt_or_ge mi 34 with h8 | h8
        ·
         have e : mi = 33 := by omega
         subst e
         exact z_all_ok zk33 (fun pc h => (show zc33 pc = none from z_blt h))
        ·
         have e : mi = 34 := by omega
         subst e
         exact z_all_ok zk34 (fun pc h => (show zc34 pc = none from z_blt h))
       ·
        rcases Nat.lt_or_ge mi 36 with h8 | h8
        ·
         have e : mi = 35 := by omega
         subst e
         exact z_all_ok zk35 (fun pc h => (show zc35 pc = none from z_blt h))
        ·
         rcases Nat.lt_or_ge mi 37 with h9 | h9
         ·
          have e : mi = 36 := by omega
          subst e
          exact z_all_ok zk36 (fun pc h => (show zc36 pc = none from z_blt h))
         ·
          have e : mi = 37 := by omega
          subst e
          exact z_all_ok zk37 (fun pc h => (show zc37 pc = none from z_blt h))
   ·
    rcases Nat.lt_or_ge mi 57 with h4 | h4
    ·
     rcases Nat.lt_or_ge mi 47 with h5 | h5
     ·
      rcases Nat.lt_or_ge mi 42 with h6 | h6
      ·
       rcases Nat.lt_or_ge mi 40 with h7 | h7
       ·
        rcases Nat.lt_or_ge mi 39 with h8 | h8
        ·
         have e : mi = 38 := by omega
         subst e
         exact z_all_ok zk38 (fun pc h => (show zc38 pc = none from z_blt h))
        ·
         have e : mi = 39 := by omega
         subst e
         exact z_all_ok zk39 (fun pc h => (show zc39 pc = none from z_blt h))
       ·
        rcases Nat.lt_or_ge mi 41 with h8 | h8
        ·
         have e : mi = 40 := by omega
         subst e
         exact z_all_ok zk40 (fun pc h => (show zc40 pc = none from z_blt h))
        ·
         have e : mi = 41 := by omega
         subst e
         exact z_all_ok zk41 (fun pc h => (show zc41 pc = none from z_blt h))
      ·
       rcases Nat.lt_or_ge mi 44 with h7 | h7
       ·
        rcases Nat.lt_or_ge mi 43 with h8 | h8
        ·
         have e : mi = 42 := by omega
         subst e
         exact z_all_ok zk42 (fun pc h => (show zc42 pc = none from z_blt h))
        ·
         have e : mi = 43 := by omega
         subst e
         exact z_all_ok zk43 (fun pc h => (show zc43 pc = none from z_blt h))
       ·
        rcases Nat.lt_or_ge mi 45 with h8 | h8
        ·
         have e : mi = 44 := by omega
         subst e
         exact z_all_ok zk44 (fun pc h => (show zc44 pc = none from z_blt h))
        ·
         rcases Nat.lt_or_ge mi 46 with h9 | h9
         ·
          have e : mi = 45 := by omega
          subst e
          exact z_all_ok zk45 (fun pc h => (show zc45 pc = none from z_blt h))
         ·
          have e : mi = 46 := by omega
          subst e
          exact z_all_ok zk46 (fun pc h => (show zc46 pc = none from z_blt h))
     ·
      rcases Nat.lt_or_ge mi 52 with h6 | h6
      ·
       rcases Nat.lt_or_ge mi 49 with h7 | h7
       ·
        rcases Nat.lt_or_ge mi 48 with h8 | h8
        ·
         have e : mi = 47 := by omega
         subst e
         exact z_all_ok zk47 (fun pc h => (show zc47 pc = none from z_blt h))
        ·
         have e : mi = 48 := by omega
         subst e
         exact z_all_ok zk48 (fun pc h => (show zc48 pc = none from z_blt h))
       ·
        rcases Nat.lt_or_ge mi 50 with h8 | h8
        ·
         have e : mi = 49 := by omega
         subst e
         exact z_all_ok zk49 (fun pc h => (show zc49 pc = none from z_blt h))
        ·
         rcases Nat.lt_or_ge mi 51 with h9 | h9
         ·
          have e : mi = 50 := by omega
          subst e
          exact z_all_ok zk50 (fun pc h => (show zc50 pc = none from z_blt h))
         ·
          have e : mi = 51 := by omega
          subst e
          exact z_all_ok zk51 (fun pc h => (show zc51 pc = none from z_blt h))
      ·
       rcases Nat.lt_or_ge mi 54 with h7 | h7
       ·
        rcases Nat.lt_or_ge mi 53 with h8 | h8
        ·
         have e : mi = 52 := by omega
         subst e
         exact z_all_ok zk52 (fun pc h => (show zc52 pc = none from z_blt h))
        ·
         have e : mi = 53 := by omega
         subst e
         exact z_all_ok zk53 (fun pc h => (show zc53 pc = none from z_blt h))
       ·
        rcases Nat.lt_or_ge mi 55 with h8 | h8
        ·
         have e : mi = 54 := by omega
         subst e
         exact z_all_ok zk54 (fun pc h => (show zc54 pc = none from z_blt h))
        ·
         rcases Nat.lt_or_ge mi 56 with h9 | h9
         ·
          have e : mi = 55 := by omega
          subst e
          exact z_all_ok zk55 (fun pc h => (show zc55 pc = none from z_blt h))
         ·
          have e : mi = 56 := by omega
          subst e
          exact z_all_ok zk56 (fun pc h => (show zc56 pc = none from z_blt h))
    ·
     rcases Nat.lt_or_ge mi 67 with h5 | h5
     ·
      rcases Nat.lt_or_ge mi 62 with h6 | h6
      ·
       rcases Nat.lt_or_ge mi 59 with h7 | h7
       ·
        rcases Nat.lt_or_ge mi 58 with h8 | h8
        ·
         have e : mi = 57 := by omega
         subst e
         exact z_all_ok zk57 (fun pc h => (show zc57 pc = none from z_blt h))
        ·
         have e : mi = 58 := by omega
         subst e
         exact z_all_ok zk58 (fun pc h => (show zc58 pc = none from z_blt h))
       ·
        rcases Nat.lt_or_ge mi 60 with h8 | h8
        ·
         have e : mi = 59 := by omega
         subst e
         exact z_all_ok zk59 (fun pc h => (show zc59 pc = none from z_blt h))
        ·
         rcases Nat.lt_or_ge mi 61 with h9 | h9
         ·
          have e : mi = 60 := by omega
          subst e
          exact z_all_ok zk60 (fun pc h => (show zc60 pc = none from z_blt h))
         ·
          have e : mi = 61 := by omega
          subst e
          exact z_all_ok zk61 (fun pc h => (show zc61 pc = none from z_blt h))
      ·
       rcases Nat.lt_or_ge mi 64 with h7 | h7
       ·
        rcases Nat.lt_or_ge mi 63 with h8 | h8
        ·
         have e : mi = 62 := by omega
         subst e
         exact z_all_ok zk62 (fun pc h => (show zc62 pc = none from z_blt h))
        ·
         have e : mi = 63 := by omega
         subst e
         exact z_all_ok zk63 (fun pc h => (show zc63 pc = none from z_blt h))
       ·
        rcases Nat.lt_or_ge mi 65 with h8 | h8
        ·
         have e : mi = 64 := by omega
         subst e
         exact z_all_ok zk64 (fun pc h => (show zc64 pc = none from z_blt h))
        ·
         rcases Nat.lt_or_ge mi 66 with h9 | h9
         ·
          have e : mi = 65 := by omega
          subst e
          exact z_all_ok zk65 (fun pc h => (show zc65 pc = none from z_blt h))
         ·
          have e : mi = 66 := by omega
          subst e
          exact z_all_ok zk66 (fun pc h => (show zc66 pc = none from z_blt h))
     ·
      rcases Nat.lt_or_ge mi 72 with h6 | h6
      ·
       rcases Nat.lt_or_ge mi 69 with h7 | h7
       ·
        rcases Nat.lt_or_ge mi 68 with h8 | h8
        ·
         have e : mi = 67 := by omega
         subst e
         exact z_all_ok zk67 (fun pc h => (show zc67 pc = none from z_blt h))
        ·
         have e : mi = 68 := by omega
         subst e
         exact z_all_ok zk68 (fun pc h => (show zc68 pc = none from z_blt h))
       ·
        rcases Nat.lt_or_ge mi 70 with h8 | h8
        ·
         have e : mi = 69 := by omega
         subst e
         exact z_all_ok zk69 (fun pc h => (show zc69 pc = none from z_blt h))
        ·
         rcases Nat.lt_or_ge mi 71 with h9 | h9
         ·
          have e : mi = 70 := by omega
          subst e
          exact z_all_ok zk70 (fun pc h => (show zc70 pc = none from z_blt h))
         ·
          have e : mi = 71 := by omega
          subst e
          exact z_all_ok zk71 (fun pc h => (show zc71 pc = none from z_blt h))
      ·
       rcases Nat.lt_or_ge mi 74 with h7 | h7
       ·
        rcases Nat.lt_or_ge mi 73 with h8 | h8
        ·
         have e : mi = 72 := by omega
         subst e
         exact z_all_ok zk72 (fun pc h => (show zc72 pc = none from z_blt h))
        ·
         have e : mi = 73 := by omega
         subst e
         exact z_all_ok zk73 (fun pc h => (show zc73 pc = none from z_blt h))
       ·
        rcases Nat.lt_or_ge mi 75 with h8 | h8
        ·
         have e : mi = 74 := by omega
         subst e
         exact z_all_ok zk74 (fun pc h => (show zc74 pc = none from z_blt h))
        ·
         rcases Nat.lt_or_ge mi 76 with h9 | h9
         ·
          have e : mi = 75 := by omega
          subst e
          exact z_all_ok zk75 (fun pc h => (show zc75 pc = none from z_blt h))
         ·
          have e : mi = 76 := by omega
          subst e
          exact z_all_ok zk76 (fun pc h => (show zc76 pc = none from z_blt h))
  ·
   rcases Nat.lt_or_ge mi 115 with h3 | h3
   ·
    rcases Nat.lt_or_ge mi 96 with h4 | h4
    ·
     rcases Nat.lt_or_ge mi 86 with h5 | h5
     ·
      rcases Nat.lt_or_ge mi 81 with h6 | h6
      ·
       rcases Nat.lt_or_ge mi 79 with h7 | h7
       ·
        rcases Nat.lt_or_ge mi 78 with h8 | h8
        ·
         have e : mi = 77 := by omega
         subst e
         exact z_all_ok zk77 (fun pc h => (show zc77 pc = none from z_blt h))
        ·
         have e : mi = 78 := by omega
         subst e
         exact z_all_ok zk78 (fun pc h => (show zc78 pc = none from z_blt h))
       ·
        rcases Nat.lt_or_ge mi 80 with h8 | h8
        ·
         have e : mi = 79 := by omega
         subst e
         exact z_all_ok zk79 (fun pc h => (show zc79 pc = none from z_blt h))
        ·
         have e : mi = 80 := by omega
         subst e
         exact z_all_ok zk80 (fun pc h => (show zc80 pc = none from z_blt h))
      ·
       rcases Nat.lt_or_ge mi 83 with h7 | h7
       ·
        rcases Nat.lt_or_ge mi 82 with h8 | h8
        ·
         have e : mi = 81 := by omega
         subst e
         exact z_all_ok zk81 (fun pc h => (show zc81 pc = none from z_blt h))
        ·
         have e : mi = 82 := by omega
         subst e
         exact z_all_ok zk82 (fun pc h => (show zc82 pc = none from z_blt h))
       ·
        rcases Nat.lt_or_ge mi 84 with h8 | h8
        ·
         have e : mi = 83 := by omega
         subst e
         exact z_all_ok zk83 (fun pc h => (show zc83 pc = none from z_blt h))
        ·
         rcases Nat.lt_or_ge mi 85 with h9 | h9
         ·
          have e : mi = 84 := by omega
          subst e
          exact z_all_ok zk84 (fun pc h => (show zc84 pc = none from z_blt h))
         ·
          have e : mi = 85 := by omega
          subst e
          exact z_all_ok zk85 (fun pc h => (show zc85 pc = none from z_blt h))
     ·
      rcases Nat.lt_or_ge mi 91 with h6 | h6
      ·
       rcases Nat.lt_or_ge mi 88 with h7 | h7
       ·
        rcases Nat.lt_or_ge mi 87 with h8 | h8
        ·
         have e : mi = 86 := by omega
         subst e
         exact z_all_ok zk86 (fun pc h => (show zc86 pc = none from z_blt h))
        ·
         have e : mi = 87 := by omega
         subst e
         exact z_all_ok zk87 (fun pc h => (show zc87 pc = none from z_blt h))
       ·
        rcases Nat.lt_or_ge mi 89 with h8 | h8
        ·
         have e : mi = 88 := by omega
         subst e
         exact z_all_ok zk88 (fun pc h => (show zc88 pc = none from z_blt h))
        ·
         rcases Nat.lt_or_ge mi 90 with h9 | h9
         ·
          have e : mi = 89 := by omega
          subst e
          exact z_all_ok zk89 (fun pc h => (show zc89 pc = none from z_blt h))
         ·
          have e : mi = 90 := by omega
          subst e
          exact z_all_ok zk90 (fun pc h => (show zc90 pc = none from z_blt h))
      ·
       rcases Nat.lt_or_ge mi 93 with h7 | h7
       ·
        rcases Nat.lt_or_ge mi 92 with h8 | h8
        ·
         have e : mi = 91 := by omega
         subst e
         exact z_all_ok zk91 (fun pc h => (show zc91 pc = none from z_blt h))
        ·
         have e : mi = 92 := by omega
         subst e
         exact z_all_ok zk92 (fun pc h => (show zc92 pc = none from z_blt h))
       ·
        rcases Nat.lt_or_ge mi 94 with h8 | h8
        ·
         have e : mi = 93 := by omega
         subst e
         exact z_all_ok zk93 (fun pc h => (show zc93 pc = none from z_blt h))
        ·
         rcases Nat.lt_or_ge mi 95 with h9 | h9
         ·
          have e : mi = 94 := by omega
          subst e
          exact z_all_ok zk94 (fun pc h => (show zc94 pc = none from z_blt h))
         ·
          have e : mi = 95 := by omega
          subst e
          exact z_all_ok zk95 (fun pc h => (show zc95 pc = none from z_blt h))
    ·
     rcases Nat.lt_or_ge mi 105 with h5 | h5
     ·
      rcases Nat.lt_or_ge mi 100 with h6 | h6
      ·
       rcases Nat.lt_or_ge mi 98 with h7 | h7
       ·
        rcases Nat.lt_or_ge mi 97 with h8 | h8
        ·
         have e : mi = 96 := by omega
         subst e
         exact z_all_ok zk96 (fun pc h => (show zc96 pc = none from z_blt h))
        ·
         have e : mi = 97 := by omega
         subst e
         exact z_all_ok zk97 (fun pc h => (show zc97 pc = none from z_blt h))
       ·
        rcases Nat.lt_or_ge mi 99 with h8 | h8
        ·
         have e : mi = 98 := by omega
         subst e
         exact z_all_ok zk98 (fun pc h => (show zc98 pc = none from z_blt h))
        ·
         have e : mi = 99 := by omega
         subst e
         exact z_all_ok zk99 (fun pc h => (show zc99 pc = none from z_blt h))
      ·
       rcases Nat.lt_or_ge mi 102 with h7 | h7
       ·
        rcases Nat.lt_or_ge mi 101 with h8 | h8
        ·
         have e : mi = 100 := by omega
         subst e
         exact z_all_ok zk100 (fun pc h => (show zc100 pc = none from z_blt h))
        ·
         have e : mi = 101 := by omega
         subst e
         exact z_all_ok zk101 (fun pc h => (show zc101 pc = none from z_blt h))
       ·
        rcases Nat.lt_or_ge mi 103 with h8 | h8
        ·
         have e : mi = 102 := by omega
         subst e
         exact z_all_ok zk102 (fun pc h => (show zc102 pc = none from z_blt h))
        ·
         rcases Nat.lt_or_ge mi 104 with h9 | h9
         ·
          have e : mi = 103 := by omega
          subst e
          exact z_all_ok zk103 (fun pc h => (show zc103 pc = none from z_blt h))
         ·
          have e : mi = 104 := by omega
          subst e
          exact z_all_ok zk104 (fun pc h => (show zc104 pc = none from z_blt h))
     ·
      rcases Nat.lt_or_ge mi 110 with h6 | h6
      ·
       rcases Nat.lt_or_ge mi 107 with h7 | h7
       ·
        rcases Nat.lt_or_ge mi 106 with h8 | h8
        ·
         have e : mi = 105 := by omega
         subst e
         exact z_all_ok zk105 (fun pc h => (show zc105 pc = none from z_blt h))
        ·
         have e : mi = 106 := by omega
         subst e
         exact z_all_ok zk106 (fun pc h => (show zc106 pc = none from z_blt h))
       ·
        rcases Nat.lt_or_ge mi 108 with h8 | h8
        ·
         have e : mi = 107 := by omega
         subst e
         exact z_all_ok zk107 (fun pc h => (show zc107 pc = none from z_blt h))
        ·
         rcases Nat.lt_or_ge mi 109 with h9 | h9
         ·
          have e : mi = 108 := by omega
          subst e
          exact z_all_ok zk108 (fun pc h => (show zc108 pc = none from z_blt h))
         ·
          have e : mi = 109 := by omega
          subst e
          exact z_all_ok zk109 (fun pc h => (show zc109 pc = none from z_blt h))
      ·
       rcases Nat.lt_or_ge mi 112 with h7 | h7
       ·
        rcases Nat.lt_or_ge mi 111 with h8 | h8
        ·
         have e : mi = 110 := by omega
         subst e
         exact z_all_ok zk110 (fun pc h => (show zc110 pc = none from z_blt h))
        ·
         have e : mi = 111 := by omega
         subst e
         exact z_all_ok zk111 (fun pc h => (show zc111 pc = none from z_blt h))
       ·
        rcases Nat.lt_or_ge mi 113 with h8 | h8
        ·
         have e : mi = 112 := by omega
         subst e
         exact z_all_ok zk112 (fun pc h => (show zc112 pc = none from z_blt h))
        ·
         rcases Nat.lt_or_ge mi 114 with h9 | h9
         ·
          have e : mi = 113 := by omega
          subst e
          exact z_all_ok zk113 (fun pc h => (show zc113 pc = none from z_blt h))
         ·
          have e : mi = 114 := by omega
          subst e
          exact z_all_ok zk114 (fun pc h => (show zc114 pc = none from z_blt h))
   ·
    rcases Nat.lt_or_ge mi 134 with h4 | h4
    ·
     rcases Nat.lt_or_ge mi 124 with h5 | h5
     ·
      rcases Nat.lt_or_ge mi 119 with h6 | h6
      ·
       rcases Nat.lt_or_ge mi 117 with h7 | h7
       ·
        rcases Nat.lt_or_ge mi 116 with h8 | h8
        ·
         have e : mi = 115 := by omega
         subst e
         exact z_all_ok zk115 (fun pc h => (show zc115 pc = none from z_blt h))
        ·
         have e : mi = 116 := by omega
         subst e
         exact z_all_ok zk116 (fun pc h => (show zc116 pc = none from z_blt h))
       ·
        rcases Nat.lt_or_ge mi 118 with h8 | h8
        ·
         have e : mi = 117 := by omega
         subst e
         exact z_all_ok zk117 (fun pc h => (show zc117 pc = none from z_blt h))
        ·
         have e : mi = 118 := by omega
         subst e
         exact z_all_ok zk118 (fun pc h => (show zc118 pc = none from z_blt h))
      ·
       rcases Nat.lt_or_ge mi 121 with h7 | h7
       ·
        rcases Nat.lt_or_ge mi 120 with h8 | h8
        ·
         have e : mi = 119 := by omega
         subst e
         exact z_all_ok zk119 (fun pc h => (show zc119 pc = none from z_blt h))
        ·
         have e : mi = 120 := by omega
         subst e
         exact z_all_ok zk120 (fun pc h => (show zc120 pc = none from z_blt h))
       ·
        rcases Nat.lt_or_ge mi 122 with h8 | h8
        ·
         have e : mi = 121 := by omega
         subst e
         exact z_all_ok zk121 (fun pc h => (show zc121 pc = none from z_blt h))
        ·
         rcases Nat.lt_or_ge mi 123 with h9 | h9
         ·
          have e : mi = 122 := by omega
          subst e
          exact z_all_ok zk122 (fun pc h => (show zc122 pc = none from z_blt h))
         ·
          have e : mi = 123 := by omega
          subst e
          exact z_all_ok zk123 (fun pc h => (show zc123 pc = none from z_blt h))
     ·
      rcases Nat.lt_or_ge mi 129 with h6 | h6
      ·
       rcases Nat.lt_or_ge mi 126 with h7 | h7
       ·
        rcases Nat.lt_or_ge mi 125 with h8 | h8
        ·
         have e : mi = 124 := by omega
         subst e
         exact z_all_ok zk124 (fun pc h => (show zc124 pc = none from z_blt h))
        ·
         have e : mi = 125 := by omega
         subst e
         exact z_all_ok zk125 (fun pc h => (show zc125 pc = none from z_blt h))
       ·
        rcases Nat.lt_or_ge mi 127 with h8 | h8
        ·
         have e : mi = 126 := by omega
         subst e
         exact z_all_ok zk126 (fun pc h => (show zc126 pc = none from z_blt h))
        ·
         rcases Nat.lt_or_ge mi 128 with h9 | h9
         ·
          have e : mi = 127 := by omega
          subst e
          exact z_all_ok zk127 (fun pc h => (show zc127 pc = none from z_blt h))
         ·
          have e : mi = 128 := by omega
          subst e
          exact z_all_ok zk128 (fun pc h => (show zc128 pc = none from z_blt h))
      ·
       rcases Nat.lt_or_ge mi 131 with h7 | h7
       ·
        rcases Nat.lt_or_ge mi 130 with h8 | h8
        ·
         have e : mi = 129 := by omega
         subst e
         exact z_all_ok zk129 (fun pc h => (show zc129 pc = none from z_blt h))
        ·
         have e : mi = 130 := by omega
         subst e
         exact z_all_ok zk130 (fun pc h => (show zc130 pc = none from z_blt h))
       ·
        rcases Nat.lt_or_ge mi 132 with h8 | h8
        ·
         have e : mi = 131 := by omega
         subst e
         exact z_all_ok zk131 (fun pc h => (show zc131 pc = none from z_blt h))
        ·
         rcases Nat.lt_or_ge mi 133 with h9 | h9
         ·
          have e : mi = 132 := by omega
          subst e
          exact z_all_ok zk132 (fun pc h => (show zc132 pc = none from z_blt h))
         ·
          have e : mi = 133 := by omega
          subst e
          exact z_all_ok zk133 (fun pc h => (show zc133 pc = none from z_blt h))
    ·
     rcases Nat.lt_or_ge mi 144 with h5 | h5
     ·
      rcases Nat.lt_or_ge mi 139 with h6 | h6
      ·
       rcases Nat.lt_or_ge mi 136 with h7 | h7
       ·
        rcases Nat.lt_or_ge mi 135 with h8 | h8
        ·
         have e : mi = 134 := by omega
         subst e
         exact z_all_ok zk134 (fun pc h => (show zc134 pc = none from z_blt h))
        ·
         have e : mi = 135 := by omega
         subst e
         exact z_all_ok zk135 (fun pc h => (show zc135 pc = none from z_blt h))
       ·
        rcases Nat.lt_or_ge mi 137 with h8 | h8
        ·
         have e : mi = 136 := by omega
         subst e
         exact z_all_ok zk136 (fun pc h => (show zc136 pc = none from z_blt h))
        ·
         rcases Nat.lt_or_ge mi 138 with h9 | h9
         ·
          have e : mi = 137 := by omega
          subst e
          exact z_all_ok zk137 (fun pc h => (show zc137 pc = none from z_blt h))
         ·
          have e : mi = 138 := by omega
          subst e
          exact z_all_ok zk138 (fun pc h => (show zc138 pc = none from z_blt h))
      ·
       rcases Nat.lt_or_ge mi 141 with h7 | h7
       ·
        rcases Nat.lt_or_ge mi 140 with h8 | h8
        ·
         have e : mi = 139 := by omega
         subst e
         exact z_all_ok zk139 (fun pc h => (show zc139 pc = none from z_blt h))
        ·
         have e : mi = 140 := by omega
         subst e
         exact z_all_ok zk140 (fun pc h => (show zc140 pc = none from z_blt h))
       ·
        rcases Nat.lt_or_ge mi 142 with h8 | h8
        ·
         have e : mi = 141 := by omega
         subst e
         exact z_all_ok zk141 (fun pc h => (show zc141 pc = none from z_blt h))
        ·
         rcases Nat.lt_or_ge mi 143 with h9 | h9
         ·
          have e : mi = 142 := by omega
          subst e
          exact z_all_ok zk142 (fun pc h => (show zc142 pc = none from z_blt h))
         ·
          have e : mi = 143 := by omega
          subst e
          exact z_all_ok zk143 (fun pc h => (show zc143 pc = none from z_blt h))
     ·
      rcases Nat.lt_or_ge mi 149 with h6 | h6
      ·
       rcases Nat.lt_or_ge mi 146 with h7 | h7
       ·
        rcases Nat.lt_or_ge mi 145 with h8 | h8
        ·
         have e : mi = 144 := by omega
         subst e
         exact z_all_ok zk144 (fun pc h => (show zc144 pc = none from z_blt h))
        ·
         have e : mi = 145 := by omega
         subst e
         exact z_all_ok zk145 (fun pc h => (show zc145 pc = none from z_blt h))
       ·
        rcases Nat.lt_or_ge mi 147 with h8 | h8
        ·
         have e : mi = 146 := by omega
         subst e
         exact z_all_ok zk146 (fun pc h => (show zc146 pc = none from z_blt h))
        ·
         rcases Nat.lt_or_ge mi 148 with h9 | h9
         ·
          have e : mi = 147 := by omega
          subst e
          exact z_all_ok zk147 (fun pc h => (show zc147 pc = none from z_blt h))
         ·
          have e : mi = 148 := by omega
          subst e
          exact z_all_ok zk148 (fun pc h => (show zc148 pc = none from z_blt h))
      ·
       rcases Nat.lt_or_ge mi 151 with h7 | h7
       ·
        rcases Nat.lt_or_ge mi 150 with h8 | h8
        ·
         have e : mi = 149 := by omega
         subst e
         exact z_all_ok zk149 (fun pc h => (show zc149 pc = none from z_blt h))
        ·
         have e : mi = 150 := by omega
         subst e
         exact z_all_ok zk150 (fun pc h => (show zc150 pc = none from z_blt h))
       ·
        rcases Nat.lt_or_ge mi 152 with h8 | h8
        ·
         have e : mi = 151 := by omega
         subst e
         exact z_all_ok zk151 (fun pc h => (show zc151 pc = none from z_blt h))
        ·
         rcases Nat.lt_or_ge mi 153 with h9 | h9
         ·
          have e : mi = 152 := by omega
          subst e
          exact z_all_ok zk152 (fun pc h => (show zc152 pc = none from z_blt h))
         ·
          have e : mi = 153 := by omega
          subst e
          exact z_all_ok zk153 (fun pc h => (show zc153 pc = none from z_blt h))
theorem z_okC {ad : z_N → Nat} {cA : Nat → ClassId} {tys : List (ClassId × FieldType)} {A : Nat → Prop} (h1 : tys[0]? = some (cA 0, .int)) (h2 : tys[1]? = some (cA 1, .long)) (h3 : tys[2]? = some (cA 2, .object "PrintHouse$Job")) (hD : ∀ w, va_D A (z_ws sC zfk ad cA w)) : z_OK sC zfk ad cA zcl tys A zTs lw_tbl zNs "PrintHouse$Job" "PrintHouse" znM zM zC :=
  ⟨⟨zTs_in, zNs_in⟩, zTs_good, zNs_on, zNs_mv, ⟨sCn_nd, sCr_in⟩, ⟨fun _ _ => h1, fun _ _ => h2, fun _ _ => h3⟩, z_clok, fun _ _ _ _ _ _ => hD, z_mo, fun mi pc I hm hC => z_co mi hm pc I hC⟩
theorem z_okR {ad : z_N → Nat} {cA : Nat → ClassId} {tys : List (ClassId × FieldType)} {A : Nat → Prop} (h1 : tys[0]? = some (cA 0, .int)) (h2 : tys[1]? = some (cA 1, .long)) (h3 : tys[2]? = some (cA 2, .object "PrintHouse$Job")) (hD : ∀ w, va_D A (z_ws sR zfk ad cA w)) : z_OK sR zfk ad cA zcl tys A zTs lw_tbl zNs "PrintHouse$Job" "PrintHouse" znM zM zC :=
  ⟨⟨zTs_in, zNs_in⟩, zTs_good, zNs_on, zNs_mv, ⟨sRn_nd, sRr_in⟩, ⟨fun _ _ => h1, fun _ _ => h2, fun _ _ => h3⟩, z_clok, fun _ _ _ _ _ _ => hD, z_mo, fun mi pc I hm hC => z_co mi hm pc I hC⟩
/-- the codes without what writes -/
def zCr (mi pc : Nat) : Option z_I := match zC mi pc with
  | none => none
  | some I => cond (z_isw I) none (some I)
theorem zCr_in {mi pc : Nat} {I : z_I} (h : zCr mi pc = some I) : zC mi pc = some I ∧ z_isw I = false := by
  unfold zCr at h
  split at h
  · cases h
  · rename_i J hJ
    cases hw : z_isw J with
    | true => rw [hw] at h; cases h
    | false =>
      rw [hw] at h
      cases h
      exact ⟨hJ, hw⟩
theorem z_okCr {ad : z_N → Nat} {cA : Nat → ClassId} {tys : List (ClassId × FieldType)} {A : Nat → Prop} (h1 : tys[0]? = some (cA 0, .int)) (h2 : tys[1]? = some (cA 1, .long)) (h3 : tys[2]? = some (cA 2, .object "PrintHouse$Job")) : z_OK sC zfk ad cA zcl tys A zTs lw_tbl zNs "PrintHouse$Job" "PrintHouse" znM zM zCr :=
  ⟨⟨zTs_in, zNs_in⟩, zTs_good, zNs_on, zNs_mv, ⟨sCn_nd, sCr_in⟩, ⟨fun _ _ => h1, fun _ _ => h2, fun _ _ => h3⟩, z_clok, fun mi pc I _ hC hw => (by rw [(zCr_in hC).2] at hw; cases hw), z_mo, fun mi pc I hm hC => z_co mi hm pc I (zCr_in hC).1⟩
