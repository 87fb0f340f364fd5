/-! the law's ten cases -/
theorem m_thrown {v : z_W} : z_run sR zM zC 4 kX_thrown (0, z_entry (zM kX_thrown).2.2.1 (zR 0 0 :: []), [], v) = some (v, some (zI (v.1 0 0 0))) := rfl
theorem zvs_r (L : List Int32) : z_vs sR (zR 0 0 :: L.map zI) := by
  intro v hv
  rcases List.mem_cons.mp hv with rfl | hv
  · show ((0, 0) : z_N) ∈ sRn
    decide +kernel
  · obtain ⟨i, -, rfl⟩ := List.mem_map.mp hv
    trivial
abbrev zL (x : Int64) : z_V := .inr (.inl x)
theorem zvs_p {S : z_S} (h : z_vs S [zR 0 0]) (y : Int64) (k : Int32) : z_vs S (zR 0 0 :: [zL y, zI k]) := by
  intro v hv
  rcases List.mem_cons.mp hv with rfl | hv
  · exact h _ List.mem_cons_self
  · rcases List.mem_cons.mp hv with rfl | hv
    · trivial
    · rcases List.mem_cons.mp hv with rfl | hv
      · trivial
      · cases hv
section LCS
variable {p : Program} {l : Launch} {e : Env} {s : State} {m : MethodId} {below : List Frame} {meth : Method} {c : Code} {H : Heap} {locs : List Loc} {cells slots : Nat} {Q : State → Prop}
variable {b L n0 b1 b2 o : Nat} {xs : Nat → Int32} {D : va_G} {cA : Nat → ClassId} {tys : List (ClassId × FieldType)} {i : Int32} {ls : Array Slot} {w w' v v' : z_W} {x x' : Int64} {r k : Int32} {n n' : Nat}

set_option maxRecDepth 100000 in
theorem L_op0 (X0 : L_X p s m meth c b L xs D cA tys n0) (hG : L_G s b1 b2 o) (hin1 : vp_in (i + 1) L) (hin2 : vp_in (i + 2) L) (hin3 : vp_in (i + 3) L) (hl : lv_has ls 7 [(0, .ref b), (1, .ref (adC b1 (0, 0))), (2, .ref (adR b2 (0, 0))), (3, .ref o), (4, .int i)]) (hI : L_I b1 b2 o cA D w v x H) (hv1 : z_vw sC w) (hv2 : z_vw sR v) (hS : va_S (L_A s) s.heap H locs) (hcs : cells ≤ 600002 ∧ slots ≤ 7302232)
    (hc : z_run sC zM zC n kP_put (0, z_entry (zM kP_put).2.2.1 (zR 0 0 :: [zL ((xs (i + 1).toNatClampNeg).toInt64 <<< ((32 : Int32).toInt64 &&& 63) ||| ((xs (i + 2).toNatClampNeg).toInt64 &&& 4294967295)), zI (xs (i + 3).toNatClampNeg)]), [], w) = some (w', some (zI r))) (hm : z_run sR zM zC n' kX_put (0, z_entry (zM kX_put).2.2.1 (zR 0 0 :: [zL ((xs (i + 1).toNatClampNeg).toInt64 <<< ((32 : Int32).toInt64 &&& 63) ||| ((xs (i + 2).toNatClampNeg).toInt64 &&& 4294967295)), zI (xs (i + 3).toNatClampNeg)]), [], v) = some (v', some (zI r)))
    (kk : ∀ (H1 : Heap) (locs1 : List Loc) (ls1 : Array Slot), lv_has ls1 7 [(0, .ref b), (1, .ref (adC b1 (0, 0))), (2, .ref (adR b2 (0, 0))), (3, .ref o), (4, .int i)] → L_I b1 b2 o cA D w' v' x H1 → z_vw sC w' → z_vw sR v' → va_S (L_A s) s.heap H1 locs1 → W p l e room_1 s m #[Value.ref b] below meth c H1 locs1 cells slots Q (F0 m 548 ls1 [])) :
    W p l e room_1 s m #[Value.ref b] below meth c H locs cells slots Q (F0 m 92 ls []) := by
  have hx := X0.1.1
  have hb := X0.1.2.1
  have hX := X0.1.2.2.2.2.2.2.1
  have hbl := X0.1.2.2.2.2.2.2.2.1
  have hbA : ¬ L_A s b := Nat.not_le.mpr hbl
  refine lv_aload_n hx hb (show decode code 92 = .ok (.aload_n 1, 1) by decide +kernel) rfl (lv_at hl 1 rfl) ?_
  refine lv_aload_n hx hb (show decode code 93 = .ok (.aload_n 0, 1) by decide +kernel) rfl (lv_at hl 0 rfl) ?_
  refine lv_iload hx hb (show decode code 94 = .ok (.iload 4, 2) by decide +kernel) (lv_at hl 4 rfl) ?_
  refine lv_iconst (v := 1) hx hb (show decode code 96 = .ok (.iconst 1, 1) by decide +kernel) (by decide) ?_
  refine lv_iadd hx hb (show decode code 97 = .ok (.iadd, 1) by decide +kernel) ?_
  refine va_sld hx hb hX hbl hbA hS hin1 (show decode code 98 = .ok (.iaload, 1) by decide +kernel) ?_
  refine lv_i2l hx hb (show decode code 99 = .ok (.i2l, 1) by decide +kernel) rfl ?_
  refine lv_bipush (v := 32) hx hb (show decode code 100 = .ok (.bipush 32, 2) by decide +kernel) (by decide) ?_
  refine lv_lshl hx hb (show decode code 102 = .ok (.lshl, 1) by decide +kernel) rfl ?_
  refine lv_aload_n hx hb (show decode code 103 = .ok (.aload_n 0, 1) by decide +kernel) rfl (lv_at hl 0 rfl) ?_
  refine lv_iload hx hb (show decode code 104 = .ok (.iload 4, 2) by decide +kernel) (lv_at hl 4 rfl) ?_
  refine lv_iconst (v := 2) hx hb (show decode code 106 = .ok (.iconst 2, 1) by decide +kernel) (by decide) ?_
  refine lv_iadd hx hb (show decode code 107 = .ok (.iadd, 1) by decide +kernel) ?_
  refine va_sld hx hb hX hbl hbA hS hin2 (show decode code 108 = .ok (.iaload, 1) by decide +kernel) ?_
  refine lv_i2l hx hb (show decode code 109 = .ok (.i2l, 1) by decide +kernel) rfl ?_
  refine lv_ldc2 hx hb X0.1.2.2.2.2.1 (X0.ts (.constantLong "PrintHouseLaw" 36 4294967295) (zTs_in _ (by decide +kernel) rfl)) (show decode code 110 = .ok (.ldc2_w 36, 3) by decide +kernel) ?_
  refine lv_land hx hb (show decode code 113 = .ok (.land, 1) by decide +kernel) ?_
  refine lv_lor hx hb (show decode code 114 = .ok (.lor, 1) by decide +kernel) ?_
  refine lv_aload_n hx hb (show decode code 115 = .ok (.aload_n 0, 1) by decide +kernel) rfl (lv_at hl 0 rfl) ?_
  refine lv_iload hx hb (show decode code 116 = .ok (.iload 4, 2) by decide +kernel) (lv_at hl 4 rfl) ?_
  refine lv_iconst (v := 3) hx hb (show decode code 118 = .ok (.iconst 3, 1) by decide +kernel) (by decide) ?_
  refine lv_iadd hx hb (show decode code 119 = .ok (.iadd, 1) by decide +kernel) ?_
  refine va_sld hx hb hX hbl hbA hS hin3 (show decode code 120 = .ok (.iaload, 1) by decide +kernel) ?_
  refine L_callC (as' := [zL ((xs (i + 1).toNatClampNeg).toInt64 <<< ((32 : Int32).toInt64 &&& 63) ||| ((xs (i + 2).toNatClampNeg).toInt64 &&& 4294967295)), zI (xs (i + 3).toNatClampNeg)]) (rest := []) X0 hG (k := kP_put) (by decide) hc (show 4 ≤ _ by decide) (zvs_p zR00_v _ _) hv1 rfl rfl (by decide) (by decide) hI hS (zTs_in _ (by decide +kernel) rfl) hl.1 (Nat.le_of_ble_eq_true rfl) (show decode code 121 = .ok (.invokevirtual 38, 3) by decide +kernel) hcs (fun H locs hI hv1 hS => ?_)
  refine lv_aload_n hx hb (show decode code 124 = .ok (.aload_n 2, 1) by decide +kernel) rfl (lv_at hl 2 rfl) ?_
  refine lv_aload_n hx hb (show decode code 125 = .ok (.aload_n 0, 1) by decide +kernel) rfl (lv_at hl 0 rfl) ?_
  refine lv_iload hx hb (show decode code 126 = .ok (.iload 4, 2) by decide +kernel) (lv_at hl 4 rfl) ?_
  refine lv_iconst (v := 1) hx hb (show decode code 128 = .ok (.iconst 1, 1) by decide +kernel) (by decide) ?_
  refine lv_iadd hx hb (show decode code 129 = .ok (.iadd, 1) by decide +kernel) ?_
  refine va_sld hx hb hX hbl hbA hS hin1 (show decode code 130 = .ok (.iaload, 1) by decide +kernel) ?_
  refine lv_i2l hx hb (show decode code 131 = .ok (.i2l, 1) by decide +kernel) rfl ?_
  refine lv_bipush (v := 32) hx hb (show decode code 132 = .ok (.bipush 32, 2) by decide +kernel) (by decide) ?_
  refine lv_lshl hx hb (show decode code 134 = .ok (.lshl, 1) by decide +kernel) rfl ?_
  refine lv_aload_n hx hb (show decode code 135 = .ok (.aload_n 0, 1) by decide +kernel) rfl (lv_at hl 0 rfl) ?_
  refine lv_iload hx hb (show decode code 136 = .ok (.iload 4, 2) by decide +kernel) (lv_at hl 4 rfl) ?_
  refine lv_iconst (v := 2) hx hb (show decode code 138 = .ok (.iconst 2, 1) by decide +kernel) (by decide) ?_
  refine lv_iadd hx hb (show decode code 139 = .ok (.iadd, 1) by decide +kernel) ?_
  refine va_sld hx hb hX hbl hbA hS hin2 (show decode code 140 = .ok (.iaload, 1) by decide +kernel) ?_
  refine lv_i2l hx hb (show decode code 141 = .ok (.i2l, 1) by decide +kernel) rfl ?_
  refine lv_ldc2 hx hb X0.1.2.2.2.2.1 (X0.ts (.constantLong "PrintHouseLaw" 36 4294967295) (zTs_in _ (by decide +kernel) rfl)) (show decode code 142 = .ok (.ldc2_w 36, 3) by decide +kernel) ?_
  refine lv_land hx hb (show decode code 145 = .ok (.land, 1) by decide +kernel) ?_
  refine lv_lor hx hb (show decode code 146 = .ok (.lor, 1) by decide +kernel) ?_
  refine lv_aload_n hx hb (show decode code 147 = .ok (.aload_n 0, 1) by decide +kernel) rfl (lv_at hl 0 rfl) ?_
  refine lv_iload hx hb (show decode code 148 = .ok (.iload 4, 2) by decide +kernel) (lv_at hl 4 rfl) ?_
  refine lv_iconst (v := 3) hx hb (show decode code 150 = .ok (.iconst 3, 1) by decide +kernel) (by decide) ?_
  refine lv_iadd hx hb (show decode code 151 = .ok (.iadd, 1) by decide +kernel) ?_
  refine va_sld hx hb hX hbl hbA hS hin3 (show decode code 152 = .ok (.iaload, 1) by decide +kernel) ?_
  refine L_callR (as' := [zL ((xs (i + 1).toNatClampNeg).toInt64 <<< ((32 : Int32).toInt64 &&& 63) ||| ((xs (i + 2).toNatClampNeg).toInt64 &&& 4294967295)), zI (xs (i + 3).toNatClampNeg)]) (rest := [.int r]) X0 hG (k := kX_put) (by decide) hm (show 4 ≤ _ by decide) (zvs_p (zvs_r []) _ _) hv2 rfl rfl (by decide) (by decide) hI hS (zTs_in _ (by decide +kernel) rfl) hl.1 (Nat.le_of_ble_eq_true rfl) (show decode code 153 = .ok (.invokevirtual 42, 3) by decide +kernel) hcs (fun H locs hI hv2 hS => ?_)
  exact lv_icmp_eq (tgt := 548) hx hb (show decode code 156 = .ok (.if_icmp .eq 392, 3) by decide +kernel) rfl (fun _ => kk H locs ls hl hI hv1 hv2 hS) (fun h => absurd rfl h)

set_option maxRecDepth 100000 in
theorem L_op2 (X0 : L_X p s m meth c b L xs D cA tys n0) (hG : L_G s b1 b2 o) (hin1 : vp_in (i + 1) L) (hl : lv_has ls 7 [(0, .ref b), (1, .ref (adC b1 (0, 0))), (2, .ref (adR b2 (0, 0))), (3, .ref o), (4, .int i)]) (hI : L_I b1 b2 o cA D w v x H) (hv1 : z_vw sC w) (hv2 : z_vw sR v) (hS : va_S (L_A s) s.heap H locs) (hcs : cells ≤ 600002 ∧ slots ≤ 7302232)
    (hc : z_run sC zM zC n kP_reply (0, z_entry (zM kP_reply).2.2.1 (zR 0 0 :: [zI (xs (i + 1).toNatClampNeg)]), [], w) = some (w', some (zI r))) (hm : z_run sR zM zC n' kX_reply (0, z_entry (zM kX_reply).2.2.1 (zR 0 0 :: [zI (xs (i + 1).toNatClampNeg)]), [], v) = some (v', some (zI r)))
    (kk : ∀ (H1 : Heap) (locs1 : List Loc) (ls1 : Array Slot), lv_has ls1 7 [(0, .ref b), (1, .ref (adC b1 (0, 0))), (2, .ref (adR b2 (0, 0))), (3, .ref o), (4, .int i)] → L_I b1 b2 o cA D w' v' x H1 → z_vw sC w' → z_vw sR v' → va_S (L_A s) s.heap H1 locs1 → W p l e room_1 s m #[Value.ref b] below meth c H1 locs1 cells slots Q (F0 m 548 ls1 [])) :
    W p l e room_1 s m #[Value.ref b] below meth c H locs cells slots Q (F0 m 205 ls []) := by
  have hx := X0.1.1
  have hb := X0.1.2.1
  have hX := X0.1.2.2.2.2.2.2.1
  have hbl := X0.1.2.2.2.2.2.2.2.1
  have hbA : ¬ L_A s b := Nat.not_le.mpr hbl
  refine lv_aload_n hx hb (show decode code 205 = .ok (.aload_n 1, 1) by decide +kernel) rfl (lv_at hl 1 rfl) ?_
  refine lv_aload_n hx hb (show decode code 206 = .ok (.aload_n 0, 1) by decide +kernel) rfl (lv_at hl 0 rfl) ?_
  refine lv_iload hx hb (show decode code 207 = .ok (.iload 4, 2) by decide +kernel) (lv_at hl 4 rfl) ?_
  refine lv_iconst (v := 1) hx hb (show decode code 209 = .ok (.iconst 1, 1) by decide +kernel) (by decide) ?_
  refine lv_iadd hx hb (show decode code 210 = .ok (.iadd, 1) by decide +kernel) ?_
  refine va_sld hx hb hX hbl hbA hS hin1 (show decode code 211 = .ok (.iaload, 1) by decide +kernel) ?_
  refine L_callC (as' := [zI (xs (i + 1).toNatClampNeg)]) (rest := []) X0 hG (k := kP_reply) (by decide) hc (show 2 ≤ _ by decide) (zvs_i [(xs (i + 1).toNatClampNeg)]) hv1 rfl rfl (by decide) (by decide) hI hS (zTs_in _ (by decide +kernel) rfl) hl.1 (Nat.le_of_ble_eq_true rfl) (show decode code 212 = .ok (.invokevirtual 52, 3) by decide +kernel) hcs (fun H locs hI hv1 hS => ?_)
  refine lv_aload_n hx hb (show decode code 215 = .ok (.aload_n 2, 1) by decide +kernel) rfl (lv_at hl 2 rfl) ?_
  refine lv_aload_n hx hb (show decode code 216 = .ok (.aload_n 0, 1) by decide +kernel) rfl (lv_at hl 0 rfl) ?_
  refine lv_iload hx hb (show decode code 217 = .ok (.iload 4, 2) by decide +kernel) (lv_at hl 4 rfl) ?_
  refine lv_iconst (v := 1) hx hb (show decode code 219 = .ok (.iconst 1, 1) by decide +kernel) (by decide) ?_
  refine lv_iadd hx hb (show decode code 220 = .ok (.iadd, 1) by decide +kernel) ?_
  refine va_sld hx hb hX hbl hbA hS hin1 (show decode code 221 = .ok (.iaload, 1) by decide +kernel) ?_
  refine L_callR (as' := [zI (xs (i + 1).toNatClampNeg)]) (rest := [.int r]) X0 hG (k := kX_reply) (by decide) hm (show 2 ≤ _ by decide) (zvs_r [(xs (i + 1).toNatClampNeg)]) hv2 rfl rfl (by decide) (by decide) hI hS (zTs_in _ (by decide +kernel) rfl) hl.1 (Nat.le_of_ble_eq_true rfl) (show decode code 222 = .ok (.invokevirtual 56, 3) by decide +kernel) hcs (fun H locs hI hv2 hS => ?_)
  exact lv_icmp_eq (tgt := 548) hx hb (show decode code 225 = .ok (.if_icmp .eq 323, 3) by decide +kernel) rfl (fun _ => kk H locs ls hl hI hv1 hv2 hS) (fun h => absurd rfl h)

set_option maxRecDepth 100000 in
theorem L_op4 (X0 : L_X p s m meth c b L xs D cA tys n0) (hG : L_G s b1 b2 o) (hin1 : vp_in (i + 1) L) (hl : lv_has ls 7 [(0, .ref b), (1, .ref (adC b1 (0, 0))), (2, .ref (adR b2 (0, 0))), (3, .ref o), (4, .int i)]) (hI : L_I b1 b2 o cA D w v x H) (hv1 : z_vw sC w) (hv2 : z_vw sR v) (hS : va_S (L_A s) s.heap H locs) (hcs : cells ≤ 600002 ∧ slots ≤ 7302232)
    (hc : z_run sC zM zC n kP_sheet (0, z_entry (zM kP_sheet).2.2.1 (zR 0 0 :: [zI (xs (i + 1).toNatClampNeg)]), [], w) = some (w', some (zI r))) (hm : z_run sR zM zC n' kX_sheet (0, z_entry (zM kX_sheet).2.2.1 (zR 0 0 :: [zI (xs (i + 1).toNatClampNeg)]), [], v) = some (v', some (zI r)))
    (kk : ∀ (H1 : Heap) (locs1 : List Loc) (ls1 : Array Slot), lv_has ls1 7 [(0, .ref b), (1, .ref (adC b1 (0, 0))), (2, .ref (adR b2 (0, 0))), (3, .ref o), (4, .int i)] → L_I b1 b2 o cA D w' v' x H1 → z_vw sC w' → z_vw sR v' → va_S (L_A s) s.heap H1 locs1 → W p l e room_1 s m #[Value.ref b] below meth c H1 locs1 cells slots Q (F0 m 548 ls1 [])) :
    W p l e room_1 s m #[Value.ref b] below meth c H locs cells slots Q (F0 m 274 ls []) := by
  have hx := X0.1.1
  have hb := X0.1.2.1
  have hX := X0.1.2.2.2.2.2.2.1
  have hbl := X0.1.2.2.2.2.2.2.2.1
  have hbA : ¬ L_A s b := Nat.not_le.mpr hbl
  refine lv_aload_n hx hb (show decode code 274 = .ok (.aload_n 1, 1) by decide +kernel) rfl (lv_at hl 1 rfl) ?_
  refine lv_aload_n hx hb (show decode code 275 = .ok (.aload_n 0, 1) by decide +kernel) rfl (lv_at hl 0 rfl) ?_
  refine lv_iload hx hb (show decode code 276 = .ok (.iload 4, 2) by decide +kernel) (lv_at hl 4 rfl) ?_
  refine lv_iconst (v := 1) hx hb (show decode code 278 = .ok (.iconst 1, 1) by decide +kernel) (by decide) ?_
  refine lv_iadd hx hb (show decode code 279 = .ok (.iadd, 1) by decide +kernel) ?_
  refine va_sld hx hb hX hbl hbA hS hin1 (show decode code 280 = .ok (.iaload, 1) by decide +kernel) ?_
  refine L_callC (as' := [zI (xs (i + 1).toNatClampNeg)]) (rest := []) X0 hG (k := kP_sheet) (by decide) hc (show 2 ≤ _ by decide) (zvs_i [(xs (i + 1).toNatClampNeg)]) hv1 rfl rfl (by decide) (by decide) hI hS (zTs_in _ (by decide +kernel) rfl) hl.1 (Nat.le_of_ble_eq_true rfl) (show decode code 281 = .ok (.invokevirtual 60, 3) by decide +kernel) hcs (fun H locs hI hv1 hS => ?_)
  refine lv_aload_n hx hb (show decode code 284 = .ok (.aload_n 2, 1) by decide +kernel) rfl (lv_at hl 2 rfl) ?_
  refine lv_aload_n hx hb (show decode code 285 = .ok (.aload_n 0, 1) by decide +kernel) rfl (lv_at hl 0 rfl) ?_
  refine lv_iload hx hb (show decode code 286 = .ok (.iload 4, 2) by decide +kernel) (lv_at hl 4 rfl) ?_
  refine lv_iconst (v := 1) hx hb (show decode code 288 = .ok (.iconst 1, 1) by decide +kernel) (by decide) ?_
  refine lv_iadd hx hb (show decode code 289 = .ok (.iadd, 1) by decide +kernel) ?_
  refine va_sld hx hb hX hbl hbA hS hin1 (show decode code 290 = .ok (.iaload, 1) by decide +kernel) ?_
  refine L_callR (as' := [zI (xs (i + 1).toNatClampNeg)]) (rest := [.int r]) X0 hG (k := kX_sheet) (by decide) hm (show 2 ≤ _ by decide) (zvs_r [(xs (i + 1).toNatClampNeg)]) hv2 rfl rfl (by decide) (by decide) hI hS (zTs_in _ (by decide +kernel) rfl) hl.1 (Nat.le_of_ble_eq_true rfl) (show decode code 291 = .ok (.invokevirtual 63, 3) by decide +kernel) hcs (fun H locs hI hv2 hS => ?_)
  exact lv_icmp_eq (tgt := 548) hx hb (show decode code 294 = .ok (.if_icmp .eq 254, 3) by decide +kernel) rfl (fun _ => kk H locs ls hl hI hv1 hv2 hS) (fun h => absurd rfl h)

set_option maxRecDepth 100000 in
theorem L_op6 (X0 : L_X p s m meth c b L xs D cA tys n0) (hG : L_G s b1 b2 o)  (hl : lv_has ls 7 [(0, .ref b), (1, .ref (adC b1 (0, 0))), (2, .ref (adR b2 (0, 0))), (3, .ref o), (4, .int i)]) (hI : L_I b1 b2 o cA D w v x H) (hv1 : z_vw sC w) (hv2 : z_vw sR v) (hS : va_S (L_A s) s.heap H locs) (hcs : cells ≤ 600002 ∧ slots ≤ 7302232)
    (hc : z_run sC zM zC n kP_restart (0, z_entry (zM kP_restart).2.2.1 (zR 0 0 :: []), [], w) = some (w', some (zI r))) (hm : z_run sR zM zC n' kX_restart (0, z_entry (zM kX_restart).2.2.1 (zR 0 0 :: []), [], v) = some (v', some (zI r)))
    (kk : ∀ (H1 : Heap) (locs1 : List Loc) (ls1 : Array Slot), lv_has ls1 7 [(0, .ref b), (1, .ref (adC b1 (0, 0))), (2, .ref (adR b2 (0, 0))), (3, .ref o), (4, .int i)] → L_I b1 b2 o cA D w' v' x H1 → z_vw sC w' → z_vw sR v' → va_S (L_A s) s.heap H1 locs1 → W p l e room_1 s m #[Value.ref b] below meth c H1 locs1 cells slots Q (F0 m 548 ls1 [])) :
    W p l e room_1 s m #[Value.ref b] below meth c H locs cells slots Q (F0 m 362 ls []) := by
  have hx := X0.1.1
  have hb := X0.1.2.1
  have hX := X0.1.2.2.2.2.2.2.1
  have hbl := X0.1.2.2.2.2.2.2.2.1
  have hbA : ¬ L_A s b := Nat.not_le.mpr hbl
  refine lv_aload_n hx hb (show decode code 362 = .ok (.aload_n 1, 1) by decide +kernel) rfl (lv_at hl 1 rfl) ?_
  refine L_callC (as' := []) (rest := []) X0 hG (k := kP_restart) (by decide) hc (show 1 ≤ _ by decide) (zvs_i []) hv1 rfl rfl (by decide) (by decide) hI hS (zTs_in _ (by decide +kernel) rfl) hl.1 (Nat.le_of_ble_eq_true rfl) (show decode code 363 = .ok (.invokevirtual 68, 3) by decide +kernel) hcs (fun H locs hI hv1 hS => ?_)
  refine lv_aload_n hx hb (show decode code 366 = .ok (.aload_n 2, 1) by decide +kernel) rfl (lv_at hl 2 rfl) ?_
  refine L_callR (as' := []) (rest := [.int r]) X0 hG (k := kX_restart) (by decide) hm (show 1 ≤ _ by decide) (zvs_r []) hv2 rfl rfl (by decide) (by decide) hI hS (zTs_in _ (by decide +kernel) rfl) hl.1 (Nat.le_of_ble_eq_true rfl) (show decode code 367 = .ok (.invokevirtual 72, 3) by decide +kernel) hcs (fun H locs hI hv2 hS => ?_)
  exact lv_icmp_eq (tgt := 548) hx hb (show decode code 370 = .ok (.if_icmp .eq 178, 3) by decide +kernel) rfl (fun _ => kk H locs ls hl hI hv1 hv2 hS) (fun h => absurd rfl h)

set_option maxRecDepth 100000 in
theorem L_op9 (X0 : L_X p s m meth c b L xs D cA tys n0) (hG : L_G s b1 b2 o) (hin1 : vp_in (i + 1) L) (hl : lv_has ls 7 [(0, .ref b), (1, .ref (adC b1 (0, 0))), (2, .ref (adR b2 (0, 0))), (3, .ref o), (4, .int i)]) (hI : L_I b1 b2 o cA D w v x H) (hv1 : z_vw sC w) (hv2 : z_vw sR v) (hS : va_S (L_A s) s.heap H locs) (hcs : cells ≤ 600002 ∧ slots ≤ 7302232)
    (hc : z_run sC zM zC n kP_count (0, z_entry (zM kP_count).2.2.1 (zR 0 0 :: [zI (xs (i + 1).toNatClampNeg)]), [], w) = some (w', some (zI r))) (hm : z_run sR zM zC n' kX_count (0, z_entry (zM kX_count).2.2.1 (zR 0 0 :: [zI (xs (i + 1).toNatClampNeg)]), [], v) = some (v', some (zI r)))
    (kk : ∀ (H1 : Heap) (locs1 : List Loc) (ls1 : Array Slot), lv_has ls1 7 [(0, .ref b), (1, .ref (adC b1 (0, 0))), (2, .ref (adR b2 (0, 0))), (3, .ref o), (4, .int i)] → L_I b1 b2 o cA D w' v' x H1 → z_vw sC w' → z_vw sR v' → va_S (L_A s) s.heap H1 locs1 → W p l e room_1 s m #[Value.ref b] below meth c H1 locs1 cells slots Q (F0 m 548 ls1 [])) :
    W p l e room_1 s m #[Value.ref b] below meth c H locs cells slots Q (F0 m 523 ls []) := by
  have hx := X0.1.1
  have hb := X0.1.2.1
  have hX := X0.1.2.2.2.2.2.2.1
  have hbl := X0.1.2.2.2.2.2.2.2.1
  have hbA : ¬ L_A s b := Nat.not_le.mpr hbl
  refine lv_aload_n hx hb (show decode code 523 = .ok (.aload_n 1, 1) by decide +kernel) rfl (lv_at hl 1 rfl) ?_
  refine lv_aload_n hx hb (show decode code 524 = .ok (.aload_n 0, 1) by decide +kernel) rfl (lv_at hl 0 rfl) ?_
  refine lv_iload hx hb (show decode code 525 = .ok (.iload 4, 2) by decide +kernel) (lv_at hl 4 rfl) ?_
  refine lv_iconst (v := 1) hx hb (show decode code 527 = .ok (.iconst 1, 1) by decide +kernel) (by decide) ?_
  refine lv_iadd hx hb (show decode code 528 = .ok (.iadd, 1) by decide +kernel) ?_
  refine va_sld hx hb hX hbl hbA hS hin1 (show decode code 529 = .ok (.iaload, 1) by decide +kernel) ?_
  refine L_callC (as' := [zI (xs (i + 1).toNatClampNeg)]) (rest := []) X0 hG (k := kP_count) (by decide) hc (show 2 ≤ _ by decide) (zvs_i [(xs (i + 1).toNatClampNeg)]) hv1 rfl rfl (by decide) (by decide) hI hS (zTs_in _ (by decide +kernel) rfl) hl.1 (Nat.le_of_ble_eq_true rfl) (show decode code 530 = .ok (.invokevirtual 81, 3) by decide +kernel) hcs (fun H locs hI hv1 hS => ?_)
  refine lv_aload_n hx hb (show decode code 533 = .ok (.aload_n 2, 1) by decide +kernel) rfl (lv_at hl 2 rfl) ?_
  refine lv_aload_n hx hb (show decode code 534 = .ok (.aload_n 0, 1) by decide +kernel) rfl (lv_at hl 0 rfl) ?_
  refine lv_iload hx hb (show decode code 535 = .ok (.iload 4, 2) by decide +kernel) (lv_at hl 4 rfl) ?_
  refine lv_iconst (v := 1) hx hb (show decode code 537 = .ok (.iconst 1, 1) by decide +kernel) (by decide) ?_
  refine lv_iadd hx hb (show decode code 538 = .ok (.iadd, 1) by decide +kernel) ?_
  refine va_sld hx hb hX hbl hbA hS hin1 (show decode code 539 = .ok (.iaload, 1) by decide +kernel) ?_
  refine L_callR (as' := [zI (xs (i + 1).toNatClampNeg)]) (rest := [.int r]) X0 hG (k := kX_count) (by decide) hm (show 2 ≤ _ by decide) (zvs_r [(xs (i + 1).toNatClampNeg)]) hv2 rfl rfl (by decide) (by decide) hI hS (zTs_in _ (by decide +kernel) rfl) hl.1 (Nat.le_of_ble_eq_true rfl) (show decode code 540 = .ok (.invokevirtual 84, 3) by decide +kernel) hcs (fun H locs hI hv2 hS => ?_)
  exact lv_icmp_eq (tgt := 548) hx hb (show decode code 543 = .ok (.if_icmp .eq 5, 3) by decide +kernel) rfl (fun _ => kk H locs ls hl hI hv1 hv2 hS) (fun h => absurd rfl h)

theorem L_H1 : L_H yL_request method_3_code 3 43 2 [(0, 8, 11, 13)] := by
  refine ⟨zTs_in _ (by decide +kernel) rfl, zTs_in _ (by decide +kernel) rfl, zTs_in _ (by decide +kernel) rfl, zTs_in _ (by decide +kernel) rfl, by decide, by decide, ?_⟩
  intro sig h
  have e : (parseMethodDescriptor yL_request.desc).map (fun q => q.parameters.length) = some 2 := by decide +kernel
  rw [h] at e
  exact (Option.some.inj e).symm

set_option maxRecDepth 100000 in
theorem L_rest1 (X0 : L_X p s m meth c b L xs D cA tys n0) (hG : L_G s b1 b2 o)  (hl : lv_has ls 7 [(0, .ref b), (1, .ref (adC b1 (0, 0))), (2, .ref (adR b2 (0, 0))), (3, .ref o), (4, .int i)]) (hI : L_I b1 b2 o cA D w v x H) (hv1 : z_vw sC w) (hv2 : z_vw sR v) (hS : va_S (L_A s) s.heap H locs) (hcs : cells ≤ 600002 ∧ slots ≤ 7302232)
    (hm : z_run sR zM zC n' kX_request (0, z_entry (zM kX_request).2.2.1 (zR 0 0 :: []), [], v) = some (v', some (zI r))) (hk : v'.1 0 0 0 = k) (hx0 : k = 0 → x = r.toInt64)
    (kk : ∀ (H1 : Heap) (locs1 : List Loc) (ls1 : Array Slot), lv_has ls1 7 [(0, .ref b), (1, .ref (adC b1 (0, 0))), (2, .ref (adR b2 (0, 0))), (3, .ref o), (4, .int i)] → L_I b1 b2 o cA D w v' x H1 → z_vw sC w → z_vw sR v' → va_S (L_A s) s.heap H1 locs1 → W p l e room_1 s m #[Value.ref b] below meth c H1 locs1 cells slots Q (F0 m 548 ls1 [])) :
    W p l e room_1 s m #[Value.ref b] below meth c H locs cells slots Q (F0 m 166 ls [.int k]) := by
  have hx := X0.1.1
  have hb := X0.1.2.1
  have hX := X0.1.2.2.2.2.2.2.1
  have hbl := X0.1.2.2.2.2.2.2.2.1
  have hbA : ¬ L_A s b := Nat.not_le.mpr hbl
  refine lv_istore hx hb (show decode code 166 = .ok (.istore 5, 2) by decide +kernel) hl (by decide) rfl (fun ls hl => ?_)
  refine lv_aload_n hx hb (show decode code 168 = .ok (.aload_n 2, 1) by decide +kernel) rfl (lv_at hl 3 rfl) ?_
  refine L_callR (as' := []) (rest := []) X0 hG (k := kX_request) (by decide) hm (show 1 ≤ _ by decide) (zvs_r []) hv2 rfl rfl (by decide) (by decide) hI hS (zTs_in _ (by decide +kernel) rfl) hl.1 (Nat.le_of_ble_eq_true rfl) (show decode code 169 = .ok (.invokevirtual 48, 3) by decide +kernel) hcs (fun H locs hI hv2 hS => ?_)
  refine lv_istore hx hb (show decode code 172 = .ok (.istore 6, 2) by decide +kernel) hl (by decide) rfl (fun ls hl => ?_)
  refine lv_aload_n hx hb (show decode code 174 = .ok (.aload_n 2, 1) by decide +kernel) rfl (lv_at hl 4 rfl) ?_
  refine L_callR (as' := []) (rest := []) X0 hG (k := kX_thrown) (by decide) m_thrown (show 1 ≤ _ by decide) (zvs_r []) hv2 rfl rfl (by decide) (by decide) hI hS (zTs_in _ (by decide +kernel) rfl) hl.1 (Nat.le_of_ble_eq_true rfl) (show decode code 175 = .ok (.invokevirtual 49, 3) by decide +kernel) hcs (fun H locs hI hv2 hS => ?_)
  refine lv_iload hx hb (show decode code 178 = .ok (.iload 5, 2) by decide +kernel) (lv_at hl 1 rfl) ?_
  refine lv_icmp_eq (tgt := 185) hx hb (show decode code 180 = .ok (.if_icmp .eq 5, 3) by decide +kernel) rfl (fun _ => ?_) (fun h => absurd hk h)
  have fin : ∀ (H : Heap) (locs : List Loc), L_I b1 b2 o cA D w v' x H → va_S (L_A s) s.heap H locs → W p l e room_1 s m #[Value.ref b] below meth c H locs cells slots Q (F0 m 202 ls []) := fun H locs hI hS => lv_goto (tgt := 548) hx hb (show decode code 202 = .ok (.goto 346, 3) by decide +kernel) rfl (kk H locs ls (lv_sub hl [2, 3, 4, 5, 6] rfl) hI hv1 hv2 hS)
  refine lv_iload hx hb (show decode code 185 = .ok (.iload 5, 2) by decide +kernel) (lv_at hl 1 rfl) ?_
  refine lv_if_ne (tgt := 202) hx hb (show decode code 187 = .ok (.ifCond .ne 15, 3) by decide +kernel) rfl (fun _ => fin H locs hI hS) (fun hz => ?_)
  refine lv_aload_n hx hb (show decode code 190 = .ok (.aload_n 3, 1) by decide +kernel) rfl (lv_at hl 5 rfl) ?_
  refine lv_iconst (v := 0) hx hb (show decode code 191 = .ok (.iconst 0, 1) by decide +kernel) (by decide) ?_
  refine va_lald (D := D) (cl := zcl) (ws := [(o, .inl (cA 1, 1, .inr (.inl (fun _ => x))))]) (f := fun _ => x) hx hb X0.2.2.1 (by
    intro k q hq
    cases k with
    | zero => cases hq; exact hI.2.2
    | succ k => cases hq) 0 1 rfl X0.2.1.2.1 (z_in_vp (by decide)) (show decode code 192 = .ok (.laload, 1) by decide +kernel) ?_
  refine lv_iload hx hb (show decode code 193 = .ok (.iload 6, 2) by decide +kernel) (lv_at hl 0 rfl) ?_
  refine lv_i2l hx hb (show decode code 195 = .ok (.i2l, 1) by decide +kernel) rfl ?_
  refine W.lcmp hx hb (show decode code 196 = .ok (.lcmp, 1) by decide +kernel) ?_
  refine lv_if_eq (tgt := 202) hx hb (show decode code 197 = .ok (.ifCond .eq 5, 3) by decide +kernel) rfl (fun _ => fin H locs hI hS) (fun h => absurd ?_ h)
  rw [hx0 hz]
  unfold lg_cmp
  rw [if_neg (by exact fun h => absurd h (by simp)), if_pos rfl]

set_option maxRecDepth 100000 in
theorem L_op1 (hl0 : l.stackTraces = false) (X0 : L_X p s m meth c b L xs D cA tys n0) (hG : L_G s b1 b2 o)  (hl : lv_has ls 7 [(0, .ref b), (1, .ref (adC b1 (0, 0))), (2, .ref (adR b2 (0, 0))), (3, .ref o), (4, .int i)]) (hI : L_I b1 b2 o cA D w v x H) (hv1 : z_vw sC w) (hv2 : z_vw sR v) (hS : va_S (L_A s) s.heap H locs) (hcs : cells + 1 ≤ 600002 ∧ slots + 6 ≤ 7302232)
    (hm : z_run sR zM zC n' kX_request (0, z_entry (zM kX_request).2.2.1 (zR 0 0 :: []), [], v) = some (v', some (zI r)))
    (hc : (∃ (n : Nat) (w1 : z_W), w1 = w' ∧ z_run sC zM zC n kP_request (0, z_entry (zM kP_request).2.2.1 (zR 0 0 :: []), [], w) = some (w1, some (zI r)) ∧ v'.1 0 0 0 = 0) ∨ (w' = w ∧ w.1 11 0 2 = 0 ∧ v'.1 0 0 0 = 1))
    (kk : ∀ x' : Int64, ∀ (H1 : Heap) (locs1 : List Loc) (ls1 : Array Slot), lv_has ls1 7 [(0, .ref b), (1, .ref (adC b1 (0, 0))), (2, .ref (adR b2 (0, 0))), (3, .ref o), (4, .int i)] → L_I b1 b2 o cA D w' v' x' H1 → z_vw sC w' → z_vw sR v' → va_S (L_A s) s.heap H1 locs1 → W p l e room_1 s m #[Value.ref b] below meth c H1 locs1 (cells + 1) (slots + 6) Q (F0 m 548 ls1 [])) :
    W p l e room_1 s m #[Value.ref b] below meth c H locs cells slots Q (F0 m 161 ls []) := by
  have hx := X0.1.1
  have hb := X0.1.2.1
  have hX := X0.1.2.2.2.2.2.2.1
  have hbl := X0.1.2.2.2.2.2.2.2.1
  have hbA : ¬ L_A s b := Nat.not_le.mpr hbl
  refine lv_aload_n hx hb (show decode code 161 = .ok (.aload_n 1, 1) by decide +kernel) rfl (lv_at hl 1 rfl) ?_
  refine lv_aload_n hx hb (show decode code 162 = .ok (.aload_n 3, 1) by decide +kernel) rfl (lv_at hl 3 rfl) ?_
  have hG' := hG
  obtain ⟨k1, k2, k3⟩ := hG'
  have ho : ¬ (b1 ≤ o ∧ o < b1 + 60) := by omega
  rcases hc with ⟨n, w1, rfl, hc, ht⟩ | ⟨rfl, hd, ht⟩
  · refine L_help (As := [.ref (adC b1 (0, 0)), .ref o]) X0 hG L_H1 (hn_request X0.2.1.1 X0.2.1.2.1 X0.2.1.2.2 ho hv1 hc) rfl hI hS hl.1 (show decode code 163 = .ok (.invokestatic 43, 3) by decide +kernel) ⟨by omega, by omega⟩ (fun H locs hI hS => ?_)
    refine W.widen (k := cells + 1) (n := slots + 6) (by omega) (by omega) ?_
    exact L_rest1 X0 hG  hl hI (z_keep sCr_in n kP_request _ _ _ hc (fun _ hx => by cases hx) (z_vL.entry (zvs_i [])) hv1).1 hv2 hS hcs hm ht (fun _ => rfl) (kk _)
  · refine L_helpT (As := [.ref (adC b1 (0, 0)), .ref o]) X0 L_H1 (ht1_request rfl rfl (Nat.le_refl _) (Nat.le_refl _) (t_prop (b := b1) (n0 := n0) (D := D) hl0 X0.2.1.1 X0.2.1.2.1 X0.2.1.2.2 hv1 hd (k := kP_request) (by decide) (as := zR 0 0 :: []) (zvs_i []) (show 1 ≤ _ by decide) (by decide +kernel) (by decide) (by decide) (z_K.go1 rfl rfl (z_K.nil rfl)) (by decide +kernel))) rfl hI hS hl.1 (show decode code 163 = .ok (.invokestatic 43, 3) by decide +kernel) hcs (fun H locs hI hS => ?_)
    exact L_rest1 X0 hG  hl hI hv1 hv2 hS hcs hm ht (fun h => by cases h) (kk _)

theorem L_H3 : L_H yL_tick method_4_code 3 57 2 [(0, 8, 11, 13)] := by
  refine ⟨zTs_in _ (by decide +kernel) rfl, zTs_in _ (by decide +kernel) rfl, zTs_in _ (by decide +kernel) rfl, zTs_in _ (by decide +kernel) rfl, by decide, by decide, ?_⟩
  intro sig h
  have e : (parseMethodDescriptor yL_tick.desc).map (fun q => q.parameters.length) = some 2 := by decide +kernel
  rw [h] at e
  exact (Option.some.inj e).symm

set_option maxRecDepth 100000 in
theorem L_rest3 (X0 : L_X p s m meth c b L xs D cA tys n0) (hG : L_G s b1 b2 o)  (hl : lv_has ls 7 [(0, .ref b), (1, .ref (adC b1 (0, 0))), (2, .ref (adR b2 (0, 0))), (3, .ref o), (4, .int i)]) (hI : L_I b1 b2 o cA D w v x H) (hv1 : z_vw sC w) (hv2 : z_vw sR v) (hS : va_S (L_A s) s.heap H locs) (hcs : cells ≤ 600002 ∧ slots ≤ 7302232)
    (hm : z_run sR zM zC n' kX_tick (0, z_entry (zM kX_tick).2.2.1 (zR 0 0 :: []), [], v) = some (v', some (zI r))) (hk : v'.1 0 0 0 = k) (hx0 : k = 0 → x = r.toInt64)
    (kk : ∀ (H1 : Heap) (locs1 : List Loc) (ls1 : Array Slot), lv_has ls1 7 [(0, .ref b), (1, .ref (adC b1 (0, 0))), (2, .ref (adR b2 (0, 0))), (3, .ref o), (4, .int i)] → L_I b1 b2 o cA D w v' x H1 → z_vw sC w → z_vw sR v' → va_S (L_A s) s.heap H1 locs1 → W p l e room_1 s m #[Value.ref b] below meth c H1 locs1 cells slots Q (F0 m 548 ls1 [])) :
    W p l e room_1 s m #[Value.ref b] below meth c H locs cells slots Q (F0 m 235 ls [.int k]) := by
  have hx := X0.1.1
  have hb := X0.1.2.1
  have hX := X0.1.2.2.2.2.2.2.1
  have hbl := X0.1.2.2.2.2.2.2.2.1
  have hbA : ¬ L_A s b := Nat.not_le.mpr hbl
  refine lv_istore hx hb (show decode code 235 = .ok (.istore 5, 2) by decide +kernel) hl (by decide) rfl (fun ls hl => ?_)
  refine lv_aload_n hx hb (show decode code 237 = .ok (.aload_n 2, 1) by decide +kernel) rfl (lv_at hl 3 rfl) ?_
  refine L_callR (as' := []) (rest := []) X0 hG (k := kX_tick) (by decide) hm (show 1 ≤ _ by decide) (zvs_r []) hv2 rfl rfl (by decide) (by decide) hI hS (zTs_in _ (by decide +kernel) rfl) hl.1 (Nat.le_of_ble_eq_true rfl) (show decode code 238 = .ok (.invokevirtual 59, 3) by decide +kernel) hcs (fun H locs hI hv2 hS => ?_)
  refine lv_istore hx hb (show decode code 241 = .ok (.istore 6, 2) by decide +kernel) hl (by decide) rfl (fun ls hl => ?_)
  refine lv_aload_n hx hb (show decode code 243 = .ok (.aload_n 2, 1) by decide +kernel) rfl (lv_at hl 4 rfl) ?_
  refine L_callR (as' := []) (rest := []) X0 hG (k := kX_thrown) (by decide) m_thrown (show 1 ≤ _ by decide) (zvs_r []) hv2 rfl rfl (by decide) (by decide) hI hS (zTs_in _ (by decide +kernel) rfl) hl.1 (Nat.le_of_ble_eq_true rfl) (show decode code 244 = .ok (.invokevirtual 49, 3) by decide +kernel) hcs (fun H locs hI hv2 hS => ?_)
  refine lv_iload hx hb (show decode code 247 = .ok (.iload 5, 2) by decide +kernel) (lv_at hl 1 rfl) ?_
  refine lv_icmp_eq (tgt := 254) hx hb (show decode code 249 = .ok (.if_icmp .eq 5, 3) by decide +kernel) rfl (fun _ => ?_) (fun h => absurd hk h)
  have fin : ∀ (H : Heap) (locs : List Loc), L_I b1 b2 o cA D w v' x H → va_S (L_A s) s.heap H locs → W p l e room_1 s m #[Value.ref b] below meth c H locs cells slots Q (F0 m 271 ls []) := fun H locs hI hS => lv_goto (tgt := 548) hx hb (show decode code 271 = .ok (.goto 277, 3) by decide +kernel) rfl (kk H locs ls (lv_sub hl [2, 3, 4, 5, 6] rfl) hI hv1 hv2 hS)
  refine lv_iload hx hb (show decode code 254 = .ok (.iload 5, 2) by decide +kernel) (lv_at hl 1 rfl) ?_
  refine lv_if_ne (tgt := 271) hx hb (show decode code 256 = .ok (.ifCond .ne 15, 3) by decide +kernel) rfl (fun _ => fin H locs hI hS) (fun hz => ?_)
  refine lv_aload_n hx hb (show decode code 259 = .ok (.aload_n 3, 1) by decide +kernel) rfl (lv_at hl 5 rfl) ?_
  refine lv_iconst (v := 0) hx hb (show decode code 260 = .ok (.iconst 0, 1) by decide +kernel) (by decide) ?_
  refine va_lald (D := D) (cl := zcl) (ws := [(o, .inl (cA 1, 1, .inr (.inl (fun _ => x))))]) (f := fun _ => x) hx hb X0.2.2.1 (by
    intro k q hq
    cases k with
    | zero => cases hq; exact hI.2.2
    | succ k => cases hq) 0 1 rfl X0.2.1.2.1 (z_in_vp (by decide)) (show decode code 261 = .ok (.laload, 1) by decide +kernel) ?_
  refine lv_iload hx hb (show decode code 262 = .ok (.iload 6, 2) by decide +kernel) (lv_at hl 0 rfl) ?_
  refine lv_i2l hx hb (show decode code 264 = .ok (.i2l, 1) by decide +kernel) rfl ?_
  refine W.lcmp hx hb (show decode code 265 = .ok (.lcmp, 1) by decide +kernel) ?_
  refine lv_if_eq (tgt := 271) hx hb (show decode code 266 = .ok (.ifCond .eq 5, 3) by decide +kernel) rfl (fun _ => fin H locs hI hS) (fun h => absurd ?_ h)
  rw [hx0 hz]
  unfold lg_cmp
  rw [if_neg (by exact fun h => absurd h (by simp)), if_pos rfl]

set_option maxRecDepth 100000 in
theorem L_op3 (hl0 : l.stackTraces = false) (X0 : L_X p s m meth c b L xs D cA tys n0) (hG : L_G s b1 b2 o)  (hl : lv_has ls 7 [(0, .ref b), (1, .ref (adC b1 (0, 0))), (2, .ref (adR b2 (0, 0))), (3, .ref o), (4, .int i)]) (hI : L_I b1 b2 o cA D w v x H) (hv1 : z_vw sC w) (hv2 : z_vw sR v) (hS : va_S (L_A s) s.heap H locs) (hcs : cells + 1 ≤ 600002 ∧ slots + 6 ≤ 7302232)
    (hm : z_run sR zM zC n' kX_tick (0, z_entry (zM kX_tick).2.2.1 (zR 0 0 :: []), [], v) = some (v', some (zI r)))
    (hc : (∃ (n : Nat) (w1 : z_W), w1 = w' ∧ z_run sC zM zC n kP_tick (0, z_entry (zM kP_tick).2.2.1 (zR 0 0 :: []), [], w) = some (w1, some (zI r)) ∧ v'.1 0 0 0 = 0) ∨ (w' = w ∧ w.1 11 0 2 = 0 ∧ v'.1 0 0 0 = 1))
    (kk : ∀ x' : Int64, ∀ (H1 : Heap) (locs1 : List Loc) (ls1 : Array Slot), lv_has ls1 7 [(0, .ref b), (1, .ref (adC b1 (0, 0))), (2, .ref (adR b2 (0, 0))), (3, .ref o), (4, .int i)] → L_I b1 b2 o cA D w' v' x' H1 → z_vw sC w' → z_vw sR v' → va_S (L_A s) s.heap H1 locs1 → W p l e room_1 s m #[Value.ref b] below meth c H1 locs1 (cells + 1) (slots + 6) Q (F0 m 548 ls1 [])) :
    W p l e room_1 s m #[Value.ref b] below meth c H locs cells slots Q (F0 m 230 ls []) := by
  have hx := X0.1.1
  have hb := X0.1.2.1
  have hX := X0.1.2.2.2.2.2.2.1
  have hbl := X0.1.2.2.2.2.2.2.2.1
  have hbA : ¬ L_A s b := Nat.not_le.mpr hbl
  refine lv_aload_n hx hb (show decode code 230 = .ok (.aload_n 1, 1) by decide +kernel) rfl (lv_at hl 1 rfl) ?_
  refine lv_aload_n hx hb (show decode code 231 = .ok (.aload_n 3, 1) by decide +kernel) rfl (lv_at hl 3 rfl) ?_
  have hG' := hG
  obtain ⟨k1, k2, k3⟩ := hG'
  have ho : ¬ (b1 ≤ o ∧ o < b1 + 60) := by omega
  rcases hc with ⟨n, w1, rfl, hc, ht⟩ | ⟨rfl, hd, ht⟩
  · refine L_help (As := [.ref (adC b1 (0, 0)), .ref o]) X0 hG L_H3 (hn_tick X0.2.1.1 X0.2.1.2.1 X0.2.1.2.2 ho hv1 hc) rfl hI hS hl.1 (show decode code 232 = .ok (.invokestatic 57, 3) by decide +kernel) ⟨by omega, by omega⟩ (fun H locs hI hS => ?_)
    refine W.widen (k := cells + 1) (n := slots + 6) (by omega) (by omega) ?_
    exact L_rest3 X0 hG  hl hI (z_keep sCr_in n kP_tick _ _ _ hc (fun _ hx => by cases hx) (z_vL.entry (zvs_i [])) hv1).1 hv2 hS hcs hm ht (fun _ => rfl) (kk _)
  · refine L_helpT (As := [.ref (adC b1 (0, 0)), .ref o]) X0 L_H3 (ht1_tick rfl rfl (Nat.le_refl _) (Nat.le_refl _) (t_prop (b := b1) (n0 := n0) (D := D) hl0 X0.2.1.1 X0.2.1.2.1 X0.2.1.2.2 hv1 hd (k := kP_tick) (by decide) (as := zR 0 0 :: []) (zvs_i []) (show 1 ≤ _ by decide) (by decide +kernel) (by decide) (by decide) (z_K.go1 rfl rfl (z_K.nil rfl)) (by decide +kernel))) rfl hI hS hl.1 (show decode code 232 = .ok (.invokestatic 57, 3) by decide +kernel) hcs (fun H locs hI hS => ?_)
    exact L_rest3 X0 hG  hl hI hv1 hv2 hS hcs hm ht (fun h => by cases h) (kk _)

theorem L_H5 : L_H yL_stop method_5_code 4 64 3 [(0, 16, 19, 13)] := by
  refine ⟨zTs_in _ (by decide +kernel) rfl, zTs_in _ (by decide +kernel) rfl, zTs_in _ (by decide +kernel) rfl, zTs_in _ (by decide +kernel) rfl, by decide, by decide, ?_⟩
  intro sig h
  have e : (parseMethodDescriptor yL_stop.desc).map (fun q => q.parameters.length) = some 3 := by decide +kernel
  rw [h] at e
  exact (Option.some.inj e).symm

set_option maxRecDepth 100000 in
theorem L_rest5 (X0 : L_X p s m meth c b L xs D cA tys n0) (hG : L_G s b1 b2 o) (hin1 : vp_in (i + 1) L) (hl : lv_has ls 7 [(0, .ref b), (1, .ref (adC b1 (0, 0))), (2, .ref (adR b2 (0, 0))), (3, .ref o), (4, .int i)]) (hI : L_I b1 b2 o cA D w v x H) (hv1 : z_vw sC w) (hv2 : z_vw sR v) (hS : va_S (L_A s) s.heap H locs) (hcs : cells ≤ 600002 ∧ slots ≤ 7302232)
    (hm : z_run sR zM zC n' kX_stop (0, z_entry (zM kX_stop).2.2.1 (zR 0 0 :: [zI (xs (i + 1).toNatClampNeg)]), [], v) = some (v', some (zI r))) (hk : v'.1 0 0 0 = k) (hx0 : k = 0 → x = (if r = 0 then 0 else 1))
    (kk : ∀ (H1 : Heap) (locs1 : List Loc) (ls1 : Array Slot), lv_has ls1 7 [(0, .ref b), (1, .ref (adC b1 (0, 0))), (2, .ref (adR b2 (0, 0))), (3, .ref o), (4, .int i)] → L_I b1 b2 o cA D w v' x H1 → z_vw sC w → z_vw sR v' → va_S (L_A s) s.heap H1 locs1 → W p l e room_1 s m #[Value.ref b] below meth c H1 locs1 cells slots Q (F0 m 548 ls1 [])) :
    W p l e room_1 s m #[Value.ref b] below meth c H locs cells slots Q (F0 m 310 ls [.int k]) := by
  have hx := X0.1.1
  have hb := X0.1.2.1
  have hX := X0.1.2.2.2.2.2.2.1
  have hbl := X0.1.2.2.2.2.2.2.2.1
  have hbA : ¬ L_A s b := Nat.not_le.mpr hbl
  refine lv_istore hx hb (show decode code 310 = .ok (.istore 5, 2) by decide +kernel) hl (by decide) rfl (fun ls hl => ?_)
  refine lv_aload_n hx hb (show decode code 312 = .ok (.aload_n 2, 1) by decide +kernel) rfl (lv_at hl 3 rfl) ?_
  refine lv_aload_n hx hb (show decode code 313 = .ok (.aload_n 0, 1) by decide +kernel) rfl (lv_at hl 1 rfl) ?_
  refine lv_iload hx hb (show decode code 314 = .ok (.iload 4, 2) by decide +kernel) (lv_at hl 5 rfl) ?_
  refine lv_iconst (v := 1) hx hb (show decode code 316 = .ok (.iconst 1, 1) by decide +kernel) (by decide) ?_
  refine lv_iadd hx hb (show decode code 317 = .ok (.iadd, 1) by decide +kernel) ?_
  refine va_sld hx hb hX hbl hbA hS hin1 (show decode code 318 = .ok (.iaload, 1) by decide +kernel) ?_
  refine L_callR (as' := [zI (xs (i + 1).toNatClampNeg)]) (rest := []) X0 hG (k := kX_stop) (by decide) hm (show 2 ≤ _ by decide) (zvs_r [(xs (i + 1).toNatClampNeg)]) hv2 rfl rfl (by decide) (by decide) hI hS (zTs_in _ (by decide +kernel) rfl) hl.1 (Nat.le_of_ble_eq_true rfl) (show decode code 319 = .ok (.invokevirtual 67, 3) by decide +kernel) hcs (fun H locs hI hv2 hS => ?_)
  refine lv_istore hx hb (show decode code 322 = .ok (.istore 6, 2) by decide +kernel) hl (by decide) rfl (fun ls hl => ?_)
  refine lv_aload_n hx hb (show decode code 324 = .ok (.aload_n 2, 1) by decide +kernel) rfl (lv_at hl 4 rfl) ?_
  refine L_callR (as' := []) (rest := []) X0 hG (k := kX_thrown) (by decide) m_thrown (show 1 ≤ _ by decide) (zvs_r []) hv2 rfl rfl (by decide) (by decide) hI hS (zTs_in _ (by decide +kernel) rfl) hl.1 (Nat.le_of_ble_eq_true rfl) (show decode code 325 = .ok (.invokevirtual 49, 3) by decide +kernel) hcs (fun H locs hI hv2 hS => ?_)
  refine lv_iload hx hb (show decode code 328 = .ok (.iload 5, 2) by decide +kernel) (lv_at hl 1 rfl) ?_
  refine lv_icmp_eq (tgt := 335) hx hb (show decode code 330 = .ok (.if_icmp .eq 5, 3) by decide +kernel) rfl (fun _ => ?_) (fun h => absurd hk h)
  have fin : ∀ (H : Heap) (locs : List Loc), L_I b1 b2 o cA D w v' x H → va_S (L_A s) s.heap H locs → W p l e room_1 s m #[Value.ref b] below meth c H locs cells slots Q (F0 m 359 ls []) := fun H locs hI hS => lv_goto (tgt := 548) hx hb (show decode code 359 = .ok (.goto 189, 3) by decide +kernel) rfl (kk H locs ls (lv_sub hl [2, 3, 4, 5, 6] rfl) hI hv1 hv2 hS)
  refine lv_iload hx hb (show decode code 335 = .ok (.iload 5, 2) by decide +kernel) (lv_at hl 1 rfl) ?_
  refine lv_if_ne (tgt := 359) hx hb (show decode code 337 = .ok (.ifCond .ne 22, 3) by decide +kernel) rfl (fun _ => fin H locs hI hS) (fun hz => ?_)
  refine lv_aload_n hx hb (show decode code 340 = .ok (.aload_n 3, 1) by decide +kernel) rfl (lv_at hl 5 rfl) ?_
  refine lv_iconst (v := 0) hx hb (show decode code 341 = .ok (.iconst 0, 1) by decide +kernel) (by decide) ?_
  refine va_lald (D := D) (cl := zcl) (ws := [(o, .inl (cA 1, 1, .inr (.inl (fun _ => x))))]) (f := fun _ => x) hx hb X0.2.2.1 (by
    intro k q hq
    cases k with
    | zero => cases hq; exact hI.2.2
    | succ k => cases hq) 0 1 rfl X0.2.1.2.1 (z_in_vp (by decide)) (show decode code 342 = .ok (.laload, 1) by decide +kernel) ?_
  refine lv_iload hx hb (show decode code 343 = .ok (.iload 6, 2) by decide +kernel) (lv_at hl 0 rfl) ?_
  refine lv_if_eq (tgt := 352) hx hb (show decode code 345 = .ok (.ifCond .eq 7, 3) by decide +kernel) rfl (fun hr => ?_) (fun hr => ?_)
  · refine lv_lconst (v := 0) hx hb (show decode code 352 = .ok (.lconst 0, 1) by decide +kernel) (by decide) ?_
    refine W.lcmp hx hb (show decode code 353 = .ok (.lcmp, 1) by decide +kernel) ?_
    refine lv_if_eq (tgt := 359) hx hb (show decode code 354 = .ok (.ifCond .eq 5, 3) by decide +kernel) rfl (fun _ => fin H locs hI hS) (fun h => absurd ?_ h)
    rw [hx0 hz, if_pos hr]
    rfl
  · refine lv_lconst (v := 1) hx hb (show decode code 348 = .ok (.lconst 1, 1) by decide +kernel) (by decide) ?_
    refine lv_goto (tgt := 353) hx hb (show decode code 349 = .ok (.goto 4, 3) by decide +kernel) rfl ?_
    refine W.lcmp hx hb (show decode code 353 = .ok (.lcmp, 1) by decide +kernel) ?_
    refine lv_if_eq (tgt := 359) hx hb (show decode code 354 = .ok (.ifCond .eq 5, 3) by decide +kernel) rfl (fun _ => fin H locs hI hS) (fun h => absurd ?_ h)
    rw [hx0 hz, if_neg hr]
    rfl

set_option maxRecDepth 100000 in
theorem L_op5 (hl0 : l.stackTraces = false) (X0 : L_X p s m meth c b L xs D cA tys n0) (hG : L_G s b1 b2 o) (hin1 : vp_in (i + 1) L) (hl : lv_has ls 7 [(0, .ref b), (1, .ref (adC b1 (0, 0))), (2, .ref (adR b2 (0, 0))), (3, .ref o), (4, .int i)]) (hI : L_I b1 b2 o cA D w v x H) (hv1 : z_vw sC w) (hv2 : z_vw sR v) (hS : va_S (L_A s) s.heap H locs) (hcs : cells + 1 ≤ 600002 ∧ slots + 6 ≤ 7302232)
    (hm : z_run sR zM zC n' kX_stop (0, z_entry (zM kX_stop).2.2.1 (zR 0 0 :: [zI (xs (i + 1).toNatClampNeg)]), [], v) = some (v', some (zI r)))
    (hc : (∃ (n : Nat) (w1 : z_W), w1 = w' ∧ z_run sC zM zC n kP_stop (0, z_entry (zM kP_stop).2.2.1 (zR 0 0 :: [zI (xs (i + 1).toNatClampNeg)]), [], w) = some (w1, some (zI r)) ∧ v'.1 0 0 0 = 0) ∨ (w' = w ∧ w.1 11 0 2 = 0 ∧ v'.1 0 0 0 = 1))
    (kk : ∀ x' : Int64, ∀ (H1 : Heap) (locs1 : List Loc) (ls1 : Array Slot), lv_has ls1 7 [(0, .ref b), (1, .ref (adC b1 (0, 0))), (2, .ref (adR b2 (0, 0))), (3, .ref o), (4, .int i)] → L_I b1 b2 o cA D w' v' x' H1 → z_vw sC w' → z_vw sR v' → va_S (L_A s) s.heap H1 locs1 → W p l e room_1 s m #[Value.ref b] below meth c H1 locs1 (cells + 1) (slots + 6) Q (F0 m 548 ls1 [])) :
    W p l e room_1 s m #[Value.ref b] below meth c H locs cells slots Q (F0 m 299 ls []) := by
  have hx := X0.1.1
  have hb := X0.1.2.1
  have hX := X0.1.2.2.2.2.2.2.1
  have hbl := X0.1.2.2.2.2.2.2.2.1
  have hbA : ¬ L_A s b := Nat.not_le.mpr hbl
  refine lv_aload_n hx hb (show decode code 299 = .ok (.aload_n 1, 1) by decide +kernel) rfl (lv_at hl 1 rfl) ?_
  refine lv_aload_n hx hb (show decode code 300 = .ok (.aload_n 0, 1) by decide +kernel) rfl (lv_at hl 0 rfl) ?_
  refine lv_iload hx hb (show decode code 301 = .ok (.iload 4, 2) by decide +kernel) (lv_at hl 4 rfl) ?_
  refine lv_iconst (v := 1) hx hb (show decode code 303 = .ok (.iconst 1, 1) by decide +kernel) (by decide) ?_
  refine lv_iadd hx hb (show decode code 304 = .ok (.iadd, 1) by decide +kernel) ?_
  refine va_sld hx hb hX hbl hbA hS hin1 (show decode code 305 = .ok (.iaload, 1) by decide +kernel) ?_
  refine lv_aload_n hx hb (show decode code 306 = .ok (.aload_n 3, 1) by decide +kernel) rfl (lv_at hl 3 rfl) ?_
  have hG' := hG
  obtain ⟨k1, k2, k3⟩ := hG'
  have ho : ¬ (b1 ≤ o ∧ o < b1 + 60) := by omega
  rcases hc with ⟨n, w1, rfl, hc, ht⟩ | ⟨rfl, hd, ht⟩
  · refine L_help (As := [.ref (adC b1 (0, 0)), .int (xs (i + 1).toNatClampNeg), .ref o]) X0 hG L_H5 (hn_stop X0.2.1.1 X0.2.1.2.1 X0.2.1.2.2 ho hv1 hc) rfl hI hS hl.1 (show decode code 307 = .ok (.invokestatic 64, 3) by decide +kernel) ⟨by omega, by omega⟩ (fun H locs hI hS => ?_)
    refine W.widen (k := cells + 1) (n := slots + 6) (by omega) (by omega) ?_
    exact L_rest5 X0 hG hin1 hl hI (z_keep sCr_in n kP_stop _ _ _ hc (fun _ hx => by cases hx) (z_vL.entry (zvs_i [(xs (i + 1).toNatClampNeg)])) hv1).1 hv2 hS hcs hm ht (fun _ => rfl) (kk _)
  · refine L_helpT (As := [.ref (adC b1 (0, 0)), .int (xs (i + 1).toNatClampNeg), .ref o]) X0 L_H5 (ht1_stop rfl rfl (Nat.le_refl _) (Nat.le_refl _) (t_prop (b := b1) (n0 := n0) (D := D) hl0 X0.2.1.1 X0.2.1.2.1 X0.2.1.2.2 hv1 hd (k := kP_stop) (by decide) (as := zR 0 0 :: [zI (xs (i + 1).toNatClampNeg)]) (zvs_i [(xs (i + 1).toNatClampNeg)]) (show 2 ≤ _ by decide) (by decide +kernel) (by decide) (by decide) (z_K.go1 rfl rfl (z_K.nil rfl)) (by decide +kernel))) rfl hI hS hl.1 (show decode code 307 = .ok (.invokestatic 64, 3) by decide +kernel) hcs (fun H locs hI hS => ?_)
    exact L_rest5 X0 hG hin1 hl hI hv1 hv2 hS hcs hm ht (fun h => by cases h) (kk _)

theorem L_H7 : L_H yL_job method_6_code 5 73 4 [(0, 10, 13, 13), (0, 10, 17, 26)] := by
  refine ⟨zTs_in _ (by decide +kernel) rfl, zTs_in _ (by decide +kernel) rfl, zTs_in _ (by decide +kernel) rfl, zTs_in _ (by decide +kernel) rfl, by decide, by decide, ?_⟩
  intro sig h
  have e : (parseMethodDescriptor yL_job.desc).map (fun q => q.parameters.length) = some 4 := by decide +kernel
  rw [h] at e
  exact (Option.some.inj e).symm

set_option maxRecDepth 100000 in
theorem L_rest7 (X0 : L_X p s m meth c b L xs D cA tys n0) (hG : L_G s b1 b2 o) (hin1 : vp_in (i + 1) L) (hin2 : vp_in (i + 2) L) (hl : lv_has ls 7 [(0, .ref b), (1, .ref (adC b1 (0, 0))), (2, .ref (adR b2 (0, 0))), (3, .ref o), (4, .int i)]) (hI : L_I b1 b2 o cA D w v x H) (hv1 : z_vw sC w) (hv2 : z_vw sR v) (hS : va_S (L_A s) s.heap H locs) (hcs : cells ≤ 600002 ∧ slots ≤ 7302232)
    (hm : z_run sR zM zC n' kX_job (0, z_entry (zM kX_job).2.2.1 (zR 0 0 :: [zI (xs (i + 1).toNatClampNeg), zI (xs (i + 2).toNatClampNeg)]), [], v) = some (v', some (zI r))) (hk : v'.1 0 0 0 = k) (hx0 : k = 0 → x = r.toInt64)
    (kk : ∀ (H1 : Heap) (locs1 : List Loc) (ls1 : Array Slot), lv_has ls1 7 [(0, .ref b), (1, .ref (adC b1 (0, 0))), (2, .ref (adR b2 (0, 0))), (3, .ref o), (4, .int i)] → L_I b1 b2 o cA D w v' x H1 → z_vw sC w → z_vw sR v' → va_S (L_A s) s.heap H1 locs1 → W p l e room_1 s m #[Value.ref b] below meth c H1 locs1 cells slots Q (F0 m 548 ls1 [])) :
    W p l e room_1 s m #[Value.ref b] below meth c H locs cells slots Q (F0 m 392 ls [.int k]) := by
  have hx := X0.1.1
  have hb := X0.1.2.1
  have hX := X0.1.2.2.2.2.2.2.1
  have hbl := X0.1.2.2.2.2.2.2.2.1
  have hbA : ¬ L_A s b := Nat.not_le.mpr hbl
  refine lv_istore hx hb (show decode code 392 = .ok (.istore 5, 2) by decide +kernel) hl (by decide) rfl (fun ls hl => ?_)
  refine lv_aload_n hx hb (show decode code 394 = .ok (.aload_n 2, 1) by decide +kernel) rfl (lv_at hl 3 rfl) ?_
  refine lv_aload_n hx hb (show decode code 395 = .ok (.aload_n 0, 1) by decide +kernel) rfl (lv_at hl 1 rfl) ?_
  refine lv_iload hx hb (show decode code 396 = .ok (.iload 4, 2) by decide +kernel) (lv_at hl 5 rfl) ?_
  refine lv_iconst (v := 1) hx hb (show decode code 398 = .ok (.iconst 1, 1) by decide +kernel) (by decide) ?_
  refine lv_iadd hx hb (show decode code 399 = .ok (.iadd, 1) by decide +kernel) ?_
  refine va_sld hx hb hX hbl hbA hS hin1 (show decode code 400 = .ok (.iaload, 1) by decide +kernel) ?_
  refine lv_aload_n hx hb (show decode code 401 = .ok (.aload_n 0, 1) by decide +kernel) rfl (lv_at hl 1 rfl) ?_
  refine lv_iload hx hb (show decode code 402 = .ok (.iload 4, 2) by decide +kernel) (lv_at hl 5 rfl) ?_
  refine lv_iconst (v := 2) hx hb (show decode code 404 = .ok (.iconst 2, 1) by decide +kernel) (by decide) ?_
  refine lv_iadd hx hb (show decode code 405 = .ok (.iadd, 1) by decide +kernel) ?_
  refine va_sld hx hb hX hbl hbA hS hin2 (show decode code 406 = .ok (.iaload, 1) by decide +kernel) ?_
  refine L_callR (as' := [zI (xs (i + 1).toNatClampNeg), zI (xs (i + 2).toNatClampNeg)]) (rest := []) X0 hG (k := kX_job) (by decide) hm (show 3 ≤ _ by decide) (zvs_r [(xs (i + 1).toNatClampNeg), (xs (i + 2).toNatClampNeg)]) hv2 rfl rfl (by decide) (by decide) hI hS (zTs_in _ (by decide +kernel) rfl) hl.1 (Nat.le_of_ble_eq_true rfl) (show decode code 407 = .ok (.invokevirtual 76, 3) by decide +kernel) hcs (fun H locs hI hv2 hS => ?_)
  refine lv_istore hx hb (show decode code 410 = .ok (.istore 6, 2) by decide +kernel) hl (by decide) rfl (fun ls hl => ?_)
  refine lv_aload_n hx hb (show decode code 412 = .ok (.aload_n 2, 1) by decide +kernel) rfl (lv_at hl 4 rfl) ?_
  refine L_callR (as' := []) (rest := []) X0 hG (k := kX_thrown) (by decide) m_thrown (show 1 ≤ _ by decide) (zvs_r []) hv2 rfl rfl (by decide) (by decide) hI hS (zTs_in _ (by decide +kernel) rfl) hl.1 (Nat.le_of_ble_eq_true rfl) (show decode code 413 = .ok (.invokevirtual 49, 3) by decide +kernel) hcs (fun H locs hI hv2 hS => ?_)
  refine lv_iload hx hb (show decode code 416 = .ok (.iload 5, 2) by decide +kernel) (lv_at hl 1 rfl) ?_
  refine lv_icmp_eq (tgt := 423) hx hb (show decode code 418 = .ok (.if_icmp .eq 5, 3) by decide +kernel) rfl (fun _ => ?_) (fun h => absurd hk h)
  have fin : ∀ (H : Heap) (locs : List Loc), L_I b1 b2 o cA D w v' x H → va_S (L_A s) s.heap H locs → W p l e room_1 s m #[Value.ref b] below meth c H locs cells slots Q (F0 m 440 ls []) := fun H locs hI hS => lv_goto (tgt := 548) hx hb (show decode code 440 = .ok (.goto 108, 3) by decide +kernel) rfl (kk H locs ls (lv_sub hl [2, 3, 4, 5, 6] rfl) hI hv1 hv2 hS)
  refine lv_iload hx hb (show decode code 423 = .ok (.iload 5, 2) by decide +kernel) (lv_at hl 1 rfl) ?_
  refine lv_if_ne (tgt := 440) hx hb (show decode code 425 = .ok (.ifCond .ne 15, 3) by decide +kernel) rfl (fun _ => fin H locs hI hS) (fun hz => ?_)
  refine lv_aload_n hx hb (show decode code 428 = .ok (.aload_n 3, 1) by decide +kernel) rfl (lv_at hl 5 rfl) ?_
  refine lv_iconst (v := 0) hx hb (show decode code 429 = .ok (.iconst 0, 1) by decide +kernel) (by decide) ?_
  refine va_lald (D := D) (cl := zcl) (ws := [(o, .inl (cA 1, 1, .inr (.inl (fun _ => x))))]) (f := fun _ => x) hx hb X0.2.2.1 (by
    intro k q hq
    cases k with
    | zero => cases hq; exact hI.2.2
    | succ k => cases hq) 0 1 rfl X0.2.1.2.1 (z_in_vp (by decide)) (show decode code 430 = .ok (.laload, 1) by decide +kernel) ?_
  refine lv_iload hx hb (show decode code 431 = .ok (.iload 6, 2) by decide +kernel) (lv_at hl 0 rfl) ?_
  refine lv_i2l hx hb (show decode code 433 = .ok (.i2l, 1) by decide +kernel) rfl ?_
  refine W.lcmp hx hb (show decode code 434 = .ok (.lcmp, 1) by decide +kernel) ?_
  refine lv_if_eq (tgt := 440) hx hb (show decode code 435 = .ok (.ifCond .eq 5, 3) by decide +kernel) rfl (fun _ => fin H locs hI hS) (fun h => absurd ?_ h)
  rw [hx0 hz]
  unfold lg_cmp
  rw [if_neg (by exact fun h => absurd h (by simp)), if_pos rfl]

set_option maxRecDepth 100000 in
theorem L_op7 (hl0 : l.stackTraces = false) (X0 : L_X p s m meth c b L xs D cA tys n0) (hG : L_G s b1 b2 o) (hin1 : vp_in (i + 1) L) (hin2 : vp_in (i + 2) L) (hl : lv_has ls 7 [(0, .ref b), (1, .ref (adC b1 (0, 0))), (2, .ref (adR b2 (0, 0))), (3, .ref o), (4, .int i)]) (hI : L_I b1 b2 o cA D w v x H) (hv1 : z_vw sC w) (hv2 : z_vw sR v) (hS : va_S (L_A s) s.heap H locs) (hcs : cells + 1 ≤ 600002 ∧ slots + 6 ≤ 7302232)
    (hm : z_run sR zM zC n' kX_job (0, z_entry (zM kX_job).2.2.1 (zR 0 0 :: [zI (xs (i + 1).toNatClampNeg), zI (xs (i + 2).toNatClampNeg)]), [], v) = some (v', some (zI r)))
    (hc : (∃ (n : Nat) (w1 : z_W), w1 = w' ∧ z_run sC zM zC n kP_job (0, z_entry (zM kP_job).2.2.1 (zR 0 0 :: [zI (xs (i + 1).toNatClampNeg), zI (xs (i + 2).toNatClampNeg)]), [], w) = some (w1, some (zI r)) ∧ v'.1 0 0 0 = 0) ∨ (w' = w ∧ w.1 11 0 2 = 0 ∧ v'.1 0 0 0 = 1) ∨ (w' = w ∧ v'.1 0 0 0 = 2 ∧ ∃ L9, z_K sC zM zCr kP_job (0, z_entry (zM kP_job).2.2.1 (zR 0 0 :: [zI (xs (i + 1).toNatClampNeg), zI (xs (i + 2).toNatClampNeg)]), [], w) (27, L9, [], w)))
    (kk : ∀ x' : Int64, ∀ (H1 : Heap) (locs1 : List Loc) (ls1 : Array Slot), lv_has ls1 7 [(0, .ref b), (1, .ref (adC b1 (0, 0))), (2, .ref (adR b2 (0, 0))), (3, .ref o), (4, .int i)] → L_I b1 b2 o cA D w' v' x' H1 → z_vw sC w' → z_vw sR v' → va_S (L_A s) s.heap H1 locs1 → W p l e room_1 s m #[Value.ref b] below meth c H1 locs1 (cells + 1) (slots + 6) Q (F0 m 548 ls1 [])) :
    W p l e room_1 s m #[Value.ref b] below meth c H locs cells slots Q (F0 m 375 ls []) := by
  have hx := X0.1.1
  have hb := X0.1.2.1
  have hX := X0.1.2.2.2.2.2.2.1
  have hbl := X0.1.2.2.2.2.2.2.2.1
  have hbA : ¬ L_A s b := Nat.not_le.mpr hbl
  refine lv_aload_n hx hb (show decode code 375 = .ok (.aload_n 1, 1) by decide +kernel) rfl (lv_at hl 1 rfl) ?_
  refine lv_aload_n hx hb (show decode code 376 = .ok (.aload_n 0, 1) by decide +kernel) rfl (lv_at hl 0 rfl) ?_
  refine lv_iload hx hb (show decode code 377 = .ok (.iload 4, 2) by decide +kernel) (lv_at hl 4 rfl) ?_
  refine lv_iconst (v := 1) hx hb (show decode code 379 = .ok (.iconst 1, 1) by decide +kernel) (by decide) ?_
  refine lv_iadd hx hb (show decode code 380 = .ok (.iadd, 1) by decide +kernel) ?_
  refine va_sld hx hb hX hbl hbA hS hin1 (show decode code 381 = .ok (.iaload, 1) by decide +kernel) ?_
  refine lv_aload_n hx hb (show decode code 382 = .ok (.aload_n 0, 1) by decide +kernel) rfl (lv_at hl 0 rfl) ?_
  refine lv_iload hx hb (show decode code 383 = .ok (.iload 4, 2) by decide +kernel) (lv_at hl 4 rfl) ?_
  refine lv_iconst (v := 2) hx hb (show decode code 385 = .ok (.iconst 2, 1) by decide +kernel) (by decide) ?_
  refine lv_iadd hx hb (show decode code 386 = .ok (.iadd, 1) by decide +kernel) ?_
  refine va_sld hx hb hX hbl hbA hS hin2 (show decode code 387 = .ok (.iaload, 1) by decide +kernel) ?_
  refine lv_aload_n hx hb (show decode code 388 = .ok (.aload_n 3, 1) by decide +kernel) rfl (lv_at hl 3 rfl) ?_
  have hG' := hG
  obtain ⟨k1, k2, k3⟩ := hG'
  have ho : ¬ (b1 ≤ o ∧ o < b1 + 60) := by omega
  rcases hc with ⟨n, w1, rfl, hc, ht⟩ | ⟨rfl, hd, ht⟩ | ⟨rfl, ht, L9, hK9⟩
  · refine L_help (As := [.ref (adC b1 (0, 0)), .int (xs (i + 1).toNatClampNeg), .int (xs (i + 2).toNatClampNeg), .ref o]) X0 hG L_H7 (hn_job X0.2.1.1 X0.2.1.2.1 X0.2.1.2.2 ho hv1 hc) rfl hI hS hl.1 (show decode code 389 = .ok (.invokestatic 73, 3) by decide +kernel) ⟨by omega, by omega⟩ (fun H locs hI hS => ?_)
    refine W.widen (k := cells + 1) (n := slots + 6) (by omega) (by omega) ?_
    exact L_rest7 X0 hG hin1 hin2 hl hI (z_keep sCr_in n kP_job _ _ _ hc (fun _ hx => by cases hx) (z_vL.entry (zvs_i [(xs (i + 1).toNatClampNeg), (xs (i + 2).toNatClampNeg)])) hv1).1 hv2 hS hcs hm ht (fun _ => rfl) (kk _)
  · refine L_helpT (As := [.ref (adC b1 (0, 0)), .int (xs (i + 1).toNatClampNeg), .int (xs (i + 2).toNatClampNeg), .ref o]) X0 L_H7 (ht1_job rfl rfl (Nat.le_refl _) (Nat.le_refl _) (t_prop (b := b1) (n0 := n0) (D := D) hl0 X0.2.1.1 X0.2.1.2.1 X0.2.1.2.2 hv1 hd (k := kP_job) (by decide) (as := zR 0 0 :: [zI (xs (i + 1).toNatClampNeg), zI (xs (i + 2).toNatClampNeg)]) (zvs_i [(xs (i + 1).toNatClampNeg), (xs (i + 2).toNatClampNeg)]) (show 3 ≤ _ by decide) (by decide +kernel) (by decide) (by decide) (z_K.go1 rfl rfl (z_K.nil rfl)) (by decide +kernel))) rfl hI hS hl.1 (show decode code 389 = .ok (.invokestatic 73, 3) by decide +kernel) hcs (fun H locs hI hS => ?_)
    exact L_rest7 X0 hG hin1 hin2 hl hI hv1 hv2 hS hcs hm ht (fun h => by cases h) (kk _)
  · refine L_helpT (As := [.ref (adC b1 (0, 0)), .int (xs (i + 1).toNatClampNeg), .int (xs (i + 2).toNatClampNeg), .ref o]) X0 L_H7 (ht2_job rfl rfl (by decide) (by decide) (t_road (b := b1) (n0 := n0) (D := D) hl0 X0.2.1.1 X0.2.1.2.1 X0.2.1.2.2 (k := kP_job) (by decide) (as := zR 0 0 :: [zI (xs (i + 1).toNatClampNeg), zI (xs (i + 2).toNatClampNeg)]) (zvs_i [(xs (i + 1).toNatClampNeg), (xs (i + 2).toNatClampNeg)]) hv1 (show 3 ≤ _ by decide) (by decide +kernel) (by decide) (by decide) (pc := 27) hK9 (text := "no such job, or nothing such of it") (ik := 145) (is := 147) (ic := 149) (by decide +kernel)
      (zTs_in _ (by decide +kernel) rfl) (zTs_in _ (by decide +kernel) rfl) t_atB (fun U hU => hU.2.2.1.2.1) (by decide +kernel) (by decide +kernel) (by decide +kernel) (by decide +kernel) (by decide +kernel))) rfl hI hS hl.1 (show decode code 389 = .ok (.invokestatic 73, 3) by decide +kernel) hcs (fun H locs hI hS => ?_)
    exact L_rest7 X0 hG hin1 hin2 hl hI hv1 hv2 hS hcs hm ht (fun h => by cases h) (kk _)

theorem L_H8 : L_H yL_pixel method_7_code 6 77 5 [(0, 12, 15, 13), (0, 12, 19, 26)] := by
  refine ⟨zTs_in _ (by decide +kernel) rfl, zTs_in _ (by decide +kernel) rfl, zTs_in _ (by decide +kernel) rfl, zTs_in _ (by decide +kernel) rfl, by decide, by decide, ?_⟩
  intro sig h
  have e : (parseMethodDescriptor yL_pixel.desc).map (fun q => q.parameters.length) = some 5 := by decide +kernel
  rw [h] at e
  exact (Option.some.inj e).symm

set_option maxRecDepth 100000 in
theorem L_rest8 (X0 : L_X p s m meth c b L xs D cA tys n0) (hG : L_G s b1 b2 o) (hin1 : vp_in (i + 1) L) (hin2 : vp_in (i + 2) L) (hin3 : vp_in (i + 3) L) (hl : lv_has ls 7 [(0, .ref b), (1, .ref (adC b1 (0, 0))), (2, .ref (adR b2 (0, 0))), (3, .ref o), (4, .int i)]) (hI : L_I b1 b2 o cA D w v x H) (hv1 : z_vw sC w) (hv2 : z_vw sR v) (hS : va_S (L_A s) s.heap H locs) (hcs : cells ≤ 600002 ∧ slots ≤ 7302232)
    (hm : z_run sR zM zC n' kX_pixel (0, z_entry (zM kX_pixel).2.2.1 (zR 0 0 :: [zI (xs (i + 1).toNatClampNeg), zI (xs (i + 2).toNatClampNeg), zI (xs (i + 3).toNatClampNeg)]), [], v) = some (v', some (zI r))) (hk : v'.1 0 0 0 = k) (hx0 : k = 0 → x = r.toInt64)
    (kk : ∀ (H1 : Heap) (locs1 : List Loc) (ls1 : Array Slot), lv_has ls1 7 [(0, .ref b), (1, .ref (adC b1 (0, 0))), (2, .ref (adR b2 (0, 0))), (3, .ref o), (4, .int i)] → L_I b1 b2 o cA D w v' x H1 → z_vw sC w → z_vw sR v' → va_S (L_A s) s.heap H1 locs1 → W p l e room_1 s m #[Value.ref b] below meth c H1 locs1 cells slots Q (F0 m 548 ls1 [])) :
    W p l e room_1 s m #[Value.ref b] below meth c H locs cells slots Q (F0 m 466 ls [.int k]) := by
  have hx := X0.1.1
  have hb := X0.1.2.1
  have hX := X0.1.2.2.2.2.2.2.1
  have hbl := X0.1.2.2.2.2.2.2.2.1
  have hbA : ¬ L_A s b := Nat.not_le.mpr hbl
  refine lv_istore hx hb (show decode code 466 = .ok (.istore 5, 2) by decide +kernel) hl (by decide) rfl (fun ls hl => ?_)
  refine lv_aload_n hx hb (show decode code 468 = .ok (.aload_n 2, 1) by decide +kernel) rfl (lv_at hl 3 rfl) ?_
  refine lv_aload_n hx hb (show decode code 469 = .ok (.aload_n 0, 1) by decide +kernel) rfl (lv_at hl 1 rfl) ?_
  refine lv_iload hx hb (show decode code 470 = .ok (.iload 4, 2) by decide +kernel) (lv_at hl 5 rfl) ?_
  refine lv_iconst (v := 1) hx hb (show decode code 472 = .ok (.iconst 1, 1) by decide +kernel) (by decide) ?_
  refine lv_iadd hx hb (show decode code 473 = .ok (.iadd, 1) by decide +kernel) ?_
  refine va_sld hx hb hX hbl hbA hS hin1 (show decode code 474 = .ok (.iaload, 1) by decide +kernel) ?_
  refine lv_aload_n hx hb (show decode code 475 = .ok (.aload_n 0, 1) by decide +kernel) rfl (lv_at hl 1 rfl) ?_
  refine lv_iload hx hb (show decode code 476 = .ok (.iload 4, 2) by decide +kernel) (lv_at hl 5 rfl) ?_
  refine lv_iconst (v := 2) hx hb (show decode code 478 = .ok (.iconst 2, 1) by decide +kernel) (by decide) ?_
  refine lv_iadd hx hb (show decode code 479 = .ok (.iadd, 1) by decide +kernel) ?_
  refine va_sld hx hb hX hbl hbA hS hin2 (show decode code 480 = .ok (.iaload, 1) by decide +kernel) ?_
  refine lv_aload_n hx hb (show decode code 481 = .ok (.aload_n 0, 1) by decide +kernel) rfl (lv_at hl 1 rfl) ?_
  refine lv_iload hx hb (show decode code 482 = .ok (.iload 4, 2) by decide +kernel) (lv_at hl 5 rfl) ?_
  refine lv_iconst (v := 3) hx hb (show decode code 484 = .ok (.iconst 3, 1) by decide +kernel) (by decide) ?_
  refine lv_iadd hx hb (show decode code 485 = .ok (.iadd, 1) by decide +kernel) ?_
  refine va_sld hx hb hX hbl hbA hS hin3 (show decode code 486 = .ok (.iaload, 1) by decide +kernel) ?_
  refine L_callR (as' := [zI (xs (i + 1).toNatClampNeg), zI (xs (i + 2).toNatClampNeg), zI (xs (i + 3).toNatClampNeg)]) (rest := []) X0 hG (k := kX_pixel) (by decide) hm (show 4 ≤ _ by decide) (zvs_r [(xs (i + 1).toNatClampNeg), (xs (i + 2).toNatClampNeg), (xs (i + 3).toNatClampNeg)]) hv2 rfl rfl (by decide) (by decide) hI hS (zTs_in _ (by decide +kernel) rfl) hl.1 (Nat.le_of_ble_eq_true rfl) (show decode code 487 = .ok (.invokevirtual 80, 3) by decide +kernel) hcs (fun H locs hI hv2 hS => ?_)
  refine lv_istore hx hb (show decode code 490 = .ok (.istore 6, 2) by decide +kernel) hl (by decide) rfl (fun ls hl => ?_)
  refine lv_aload_n hx hb (show decode code 492 = .ok (.aload_n 2, 1) by decide +kernel) rfl (lv_at hl 4 rfl) ?_
  refine L_callR (as' := []) (rest := []) X0 hG (k := kX_thrown) (by decide) m_thrown (show 1 ≤ _ by decide) (zvs_r []) hv2 rfl rfl (by decide) (by decide) hI hS (zTs_in _ (by decide +kernel) rfl) hl.1 (Nat.le_of_ble_eq_true rfl) (show decode code 493 = .ok (.invokevirtual 49, 3) by decide +kernel) hcs (fun H locs hI hv2 hS => ?_)
  refine lv_iload hx hb (show decode code 496 = .ok (.iload 5, 2) by decide +kernel) (lv_at hl 1 rfl) ?_
  refine lv_icmp_eq (tgt := 503) hx hb (show decode code 498 = .ok (.if_icmp .eq 5, 3) by decide +kernel) rfl (fun _ => ?_) (fun h => absurd hk h)
  have fin : ∀ (H : Heap) (locs : List Loc), L_I b1 b2 o cA D w v' x H → va_S (L_A s) s.heap H locs → W p l e room_1 s m #[Value.ref b] below meth c H locs cells slots Q (F0 m 520 ls []) := fun H locs hI hS => lv_goto (tgt := 548) hx hb (show decode code 520 = .ok (.goto 28, 3) by decide +kernel) rfl (kk H locs ls (lv_sub hl [2, 3, 4, 5, 6] rfl) hI hv1 hv2 hS)
  refine lv_iload hx hb (show decode code 503 = .ok (.iload 5, 2) by decide +kernel) (lv_at hl 1 rfl) ?_
  refine lv_if_ne (tgt := 520) hx hb (show decode code 505 = .ok (.ifCond .ne 15, 3) by decide +kernel) rfl (fun _ => fin H locs hI hS) (fun hz => ?_)
  refine lv_aload_n hx hb (show decode code 508 = .ok (.aload_n 3, 1) by decide +kernel) rfl (lv_at hl 5 rfl) ?_
  refine lv_iconst (v := 0) hx hb (show decode code 509 = .ok (.iconst 0, 1) by decide +kernel) (by decide) ?_
  refine va_lald (D := D) (cl := zcl) (ws := [(o, .inl (cA 1, 1, .inr (.inl (fun _ => x))))]) (f := fun _ => x) hx hb X0.2.2.1 (by
    intro k q hq
    cases k with
    | zero => cases hq; exact hI.2.2
    | succ k => cases hq) 0 1 rfl X0.2.1.2.1 (z_in_vp (by decide)) (show decode code 510 = .ok (.laload, 1) by decide +kernel) ?_
  refine lv_iload hx hb (show decode code 511 = .ok (.iload 6, 2) by decide +kernel) (lv_at hl 0 rfl) ?_
  refine lv_i2l hx hb (show decode code 513 = .ok (.i2l, 1) by decide +kernel) rfl ?_
  refine W.lcmp hx hb (show decode code 514 = .ok (.lcmp, 1) by decide +kernel) ?_
  refine lv_if_eq (tgt := 520) hx hb (show decode code 515 = .ok (.ifCond .eq 5, 3) by decide +kernel) rfl (fun _ => fin H locs hI hS) (fun h => absurd ?_ h)
  rw [hx0 hz]
  unfold lg_cmp
  rw [if_neg (by exact fun h => absurd h (by simp)), if_pos rfl]

set_option maxRecDepth 100000 in
theorem L_op8 (hl0 : l.stackTraces = false) (X0 : L_X p s m meth c b L xs D cA tys n0) (hG : L_G s b1 b2 o) (hin1 : vp_in (i + 1) L) (hin2 : vp_in (i + 2) L) (hin3 : vp_in (i + 3) L) (hl : lv_has ls 7 [(0, .ref b), (1, .ref (adC b1 (0, 0))), (2, .ref (adR b2 (0, 0))), (3, .ref o), (4, .int i)]) (hI : L_I b1 b2 o cA D w v x H) (hv1 : z_vw sC w) (hv2 : z_vw sR v) (hS : va_S (L_A s) s.heap H locs) (hcs : cells + 1 ≤ 600002 ∧ slots + 6 ≤ 7302232)
    (hm : z_run sR zM zC n' kX_pixel (0, z_entry (zM kX_pixel).2.2.1 (zR 0 0 :: [zI (xs (i + 1).toNatClampNeg), zI (xs (i + 2).toNatClampNeg), zI (xs (i + 3).toNatClampNeg)]), [], v) = some (v', some (zI r)))
    (hc : (∃ (n : Nat) (w1 : z_W), w1 = w' ∧ z_run sC zM zC n kP_pixel (0, z_entry (zM kP_pixel).2.2.1 (zR 0 0 :: [zI (xs (i + 1).toNatClampNeg), zI (xs (i + 2).toNatClampNeg), zI (xs (i + 3).toNatClampNeg)]), [], w) = some (w1, some (zI r)) ∧ v'.1 0 0 0 = 0) ∨ (w' = w ∧ w.1 11 0 2 = 0 ∧ v'.1 0 0 0 = 1) ∨ (w' = w ∧ v'.1 0 0 0 = 2 ∧ ∃ L9, z_K sC zM zCr kP_pixel (0, z_entry (zM kP_pixel).2.2.1 (zR 0 0 :: [zI (xs (i + 1).toNatClampNeg), zI (xs (i + 2).toNatClampNeg), zI (xs (i + 3).toNatClampNeg)]), [], w) (38, L9, [], w)))
    (kk : ∀ x' : Int64, ∀ (H1 : Heap) (locs1 : List Loc) (ls1 : Array Slot), lv_has ls1 7 [(0, .ref b), (1, .ref (adC b1 (0, 0))), (2, .ref (adR b2 (0, 0))), (3, .ref o), (4, .int i)] → L_I b1 b2 o cA D w' v' x' H1 → z_vw sC w' → z_vw sR v' → va_S (L_A s) s.heap H1 locs1 → W p l e room_1 s m #[Value.ref b] below meth c H1 locs1 (cells + 1) (slots + 6) Q (F0 m 548 ls1 [])) :
    W p l e room_1 s m #[Value.ref b] below meth c H locs cells slots Q (F0 m 443 ls []) := by
  have hx := X0.1.1
  have hb := X0.1.2.1
  have hX := X0.1.2.2.2.2.2.2.1
  have hbl := X0.1.2.2.2.2.2.2.2.1
  have hbA : ¬ L_A s b := Nat.not_le.mpr hbl
  refine lv_aload_n hx hb (show decode code 443 = .ok (.aload_n 1, 1) by decide +kernel) rfl (lv_at hl 1 rfl) ?_
  refine lv_aload_n hx hb (show decode code 444 = .ok (.aload_n 0, 1) by decide +kernel) rfl (lv_at hl 0 rfl) ?_
  refine lv_iload hx hb (show decode code 445 = .ok (.iload 4, 2) by decide +kernel) (lv_at hl 4 rfl) ?_
  refine lv_iconst (v := 1) hx hb (show decode code 447 = .ok (.iconst 1, 1) by decide +kernel) (by decide) ?_
  refine lv_iadd hx hb (show decode code 448 = .ok (.iadd, 1) by decide +kernel) ?_
  refine va_sld hx hb hX hbl hbA hS hin1 (show decode code 449 = .ok (.iaload, 1) by decide +kernel) ?_
  refine lv_aload_n hx hb (show decode code 450 = .ok (.aload_n 0, 1) by decide +kernel) rfl (lv_at hl 0 rfl) ?_
  refine lv_iload hx hb (show decode code 451 = .ok (.iload 4, 2) by decide +kernel) (lv_at hl 4 rfl) ?_
  refine lv_iconst (v := 2) hx hb (show decode code 453 = .ok (.iconst 2, 1) by decide +kernel) (by decide) ?_
  refine lv_iadd hx hb (show decode code 454 = .ok (.iadd, 1) by decide +kernel) ?_
  refine va_sld hx hb hX hbl hbA hS hin2 (show decode code 455 = .ok (.iaload, 1) by decide +kernel) ?_
  refine lv_aload_n hx hb (show decode code 456 = .ok (.aload_n 0, 1) by decide +kernel) rfl (lv_at hl 0 rfl) ?_
  refine lv_iload hx hb (show decode code 457 = .ok (.iload 4, 2) by decide +kernel) (lv_at hl 4 rfl) ?_
  refine lv_iconst (v := 3) hx hb (show decode code 459 = .ok (.iconst 3, 1) by decide +kernel) (by decide) ?_
  refine lv_iadd hx hb (show decode code 460 = .ok (.iadd, 1) by decide +kernel) ?_
  refine va_sld hx hb hX hbl hbA hS hin3 (show decode code 461 = .ok (.iaload, 1) by decide +kernel) ?_
  refine lv_aload_n hx hb (show decode code 462 = .ok (.aload_n 3, 1) by decide +kernel) rfl (lv_at hl 3 rfl) ?_
  have hG' := hG
  obtain ⟨k1, k2, k3⟩ := hG'
  have ho : ¬ (b1 ≤ o ∧ o < b1 + 60) := by omega
  rcases hc with ⟨n, w1, rfl, hc, ht⟩ | ⟨rfl, hd, ht⟩ | ⟨rfl, ht, L9, hK9⟩
  · refine L_help (As := [.ref (adC b1 (0, 0)), .int (xs (i + 1).toNatClampNeg), .int (xs (i + 2).toNatClampNeg), .int (xs (i + 3).toNatClampNeg), .ref o]) X0 hG L_H8 (hn_pixel X0.2.1.1 X0.2.1.2.1 X0.2.1.2.2 ho hv1 hc) rfl hI hS hl.1 (show decode code 463 = .ok (.invokestatic 77, 3) by decide +kernel) ⟨by omega, by omega⟩ (fun H locs hI hS => ?_)
    refine W.widen (k := cells + 1) (n := slots + 6) (by omega) (by omega) ?_
    exact L_rest8 X0 hG hin1 hin2 hin3 hl hI (z_keep sCr_in n kP_pixel _ _ _ hc (fun _ hx => by cases hx) (z_vL.entry (zvs_i [(xs (i + 1).toNatClampNeg), (xs (i + 2).toNatClampNeg), (xs (i + 3).toNatClampNeg)])) hv1).1 hv2 hS hcs hm ht (fun _ => rfl) (kk _)
  · refine L_helpT (As := [.ref (adC b1 (0, 0)), .int (xs (i + 1).toNatClampNeg), .int (xs (i + 2).toNatClampNeg), .int (xs (i + 3).toNatClampNeg), .ref o]) X0 L_H8 (ht1_pixel rfl rfl (Nat.le_refl _) (Nat.le_refl _) (t_prop (b := b1) (n0 := n0) (D := D) hl0 X0.2.1.1 X0.2.1.2.1 X0.2.1.2.2 hv1 hd (k := kP_pixel) (by decide) (as := zR 0 0 :: [zI (xs (i + 1).toNatClampNeg), zI (xs (i + 2).toNatClampNeg), zI (xs (i + 3).toNatClampNeg)]) (zvs_i [(xs (i + 1).toNatClampNeg), (xs (i + 2).toNatClampNeg), (xs (i + 3).toNatClampNeg)]) (show 4 ≤ _ by decide) (by decide +kernel) (by decide) (by decide) (z_K.go1 rfl rfl (z_K.nil rfl)) (by decide +kernel))) rfl hI hS hl.1 (show decode code 463 = .ok (.invokestatic 77, 3) by decide +kernel) hcs (fun H locs hI hS => ?_)
    exact L_rest8 X0 hG hin1 hin2 hin3 hl hI hv1 hv2 hS hcs hm ht (fun h => by cases h) (kk _)
  · refine L_helpT (As := [.ref (adC b1 (0, 0)), .int (xs (i + 1).toNatClampNeg), .int (xs (i + 2).toNatClampNeg), .int (xs (i + 3).toNatClampNeg), .ref o]) X0 L_H8 (ht2_pixel rfl rfl (by decide) (by decide) (t_road (b := b1) (n0 := n0) (D := D) hl0 X0.2.1.1 X0.2.1.2.1 X0.2.1.2.2 (k := kP_pixel) (by decide) (as := zR 0 0 :: [zI (xs (i + 1).toNatClampNeg), zI (xs (i + 2).toNatClampNeg), zI (xs (i + 3).toNatClampNeg)]) (zvs_i [(xs (i + 1).toNatClampNeg), (xs (i + 2).toNatClampNeg), (xs (i + 3).toNatClampNeg)]) hv1 (show 4 ≤ _ by decide) (by decide +kernel) (by decide) (by decide) (pc := 38) hK9 (text := "no such pixel") (ik := 145) (is := 159) (ic := 149) (by decide +kernel)
      (zTs_in _ (by decide +kernel) rfl) (zTs_in _ (by decide +kernel) rfl) t_atB (fun U hU => hU.2.2.1.2.2) (by decide +kernel) (by decide +kernel) (by decide +kernel) (by decide +kernel) (by decide +kernel))) rfl hI hS hl.1 (show decode code 463 = .ok (.invokestatic 77, 3) by decide +kernel) hcs (fun H locs hI hS => ?_)
    exact L_rest8 X0 hG hin1 hin2 hin3 hl hI hv1 hv2 hS hcs hm ht (fun h => by cases h) (kk _)

end LCS
