/-! the law's beginning -/
section LST
variable {p : Program} {l : Launch} {e : Env} {s : State} {m : MethodId} {below : List Frame} {meth : Method} {c : Code} {H : Heap} {locs : List Loc} {cells slots : Nat} {Q : State → Prop}
variable {b L n0 : Nat} {xs : Nat → Int32} {D : va_G} {cA : Nat → ClassId} {tys : List (ClassId × FieldType)}
theorem L_kn {args : Array Value} (htl : ∀ w ∈ lw_tbl, w.before args s = true) : ∃ (D : va_G) (cA : Nat → ClassId), va_K D zcl [(cA 0, .int), (cA 1, .long), (cA 2, .object "PrintHouse$Job")] s := by
  have hts : ∀ w ∈ zTs, w.before args s = true := fun w hw => htl w (List.mem_filter.mp hw).1
  have hk : ∀ ci : Nat, ∃ q : ClassId × (Nat → Nat), ∀ C T N, zcl[ci]? = some (C, T, N) → u_Kn s C T N q.1 q.2 := by
    intro ci
    cases h : zcl[ci]? with
    | none => exact ⟨(0, fun _ => 0), fun C T N h9 => by cases h9⟩
    | some q =>
      obtain ⟨C, T, N⟩ := q
      obtain ⟨cC, iS, h9⟩ := u_known hts (z_clok ci C T N h).1 (hts _ (y_dko ci C T N h).2.1)
      exact ⟨(cC, iS), fun C T N h8 => by cases h8; exact h9⟩
  obtain ⟨f, hf⟩ : ∃ f : Nat → ClassId × (Nat → Nat), ∀ ci C T N, zcl[ci]? = some (C, T, N) → u_Kn s C T N (f ci).1 (f ci).2 := ⟨fun ci => Classical.choose (hk ci), fun ci => Classical.choose_spec (hk ci)⟩
  obtain ⟨c0, k0, p0, a1, a2, a3⟩ := Cond.arrayClass_spec (hts _ y_ac.1)
  obtain ⟨c1, k1, p1, a4, a5, a6⟩ := Cond.arrayClass_spec (hts _ y_ac.2)
  obtain ⟨p2, c2, k2, a7, a8, a9, a10, a11⟩ := Cond.arrayOver_spec (htl (.arrayOver (.object "PrintHouse$Job")) (by decide +kernel))
  refine ⟨(fun ci => (f ci).1, fun ci => (f ci).2), fun k => (match k with | 0 => c0 | 1 => c1 | _ => c2), fun ci q hq => hf ci _ _ _ hq, fun k q hq => ?_⟩
  match k, hq with
  | 0, hq => cases hq; exact ⟨fun n z => ⟨fun k h => (by cases h), k0, a2, p0, a3⟩, a1⟩
  | 1, hq => cases hq; exact ⟨fun n z => ⟨fun k h => (by cases h), k1, a5, p1, a6⟩, a4⟩
  | 2, hq => cases hq; exact ⟨fun n z => ⟨fun k h => (by cases h), k2, a9, p2, a10⟩, k2, p2, a9, a10, a7, a11⟩
  | k + 3, hq => cases hq
theorem L_tx (C0 : lw_At p s m meth c b L xs) : t_X s.heap.size s s.heap := by
  obtain ⟨-, -, -, -, -, hts, -, -, -, hg⟩ := C0
  have hs := flat_of_before _ hg
  refine ⟨⟨t_St.of (hts (.laysStatic "java/lang/Throwable" "UNASSIGNED_STACK" "[Ljava/lang/StackTraceElement;") (by decide +kernel)) (hs (.isRef (.static "java/lang/Throwable" "UNASSIGNED_STACK" "[Ljava/lang/StackTraceElement;")) (by decide +kernel)),
    t_St.of (hts (.laysStatic "java/lang/Throwable" "SUPPRESSED_SENTINEL" "Ljava/util/List;") (by decide +kernel)) (hs (.isRef (.static "java/lang/Throwable" "SUPPRESSED_SENTINEL" "Ljava/util/List;")) (by decide +kernel))⟩,
    fun w hw => va_Nw.of (z_xw_on (List.mem_filter.mp hw).2) (hts w (List.mem_filter.mp hw).1), ⟨?_, ?_, ?_⟩, va_Nc.of (hs (.not (.castable "java/lang/IndexOutOfBoundsException" "java/lang/IllegalStateException")) (by decide +kernel))⟩
  · obtain ⟨a, -, -, -, h, -⟩ := Cond.exactly_spec (hs (.exactly (.string "PrintHouse" 181) "java/lang/String") (by decide +kernel))
    exact ⟨a, vk_R.of (hts (.stringRef "PrintHouse" 181 "the house is down") (by decide +kernel)) h⟩
  · obtain ⟨a, -, -, -, h, -⟩ := Cond.exactly_spec (hs (.exactly (.string "PrintHouse" 147) "java/lang/String") (by decide +kernel))
    exact ⟨a, vk_R.of (hts (.stringRef "PrintHouse" 147 "no such job, or nothing such of it") (by decide +kernel)) h⟩
  · obtain ⟨a, -, -, -, h, -⟩ := Cond.exactly_spec (hs (.exactly (.string "PrintHouse" 159) "java/lang/String") (by decide +kernel))
    exact ⟨a, vk_R.of (hts (.stringRef "PrintHouse" 159 "no such pixel") (by decide +kernel)) h⟩
/-- 'new C(), dup, C.<init>' in the law's frame -/
theorem L_new (X0 : L_X p s m meth c b L xs D cA tys n0) {ci mi n N index ix pc q : Nat} {C : String} {T : u_T} {h0 h : y_H} {fs : List Value} (hc : zcl[ci]? = some (C, T, N)) (hmi : mi < 9) (hh : y_run zfk yM yC n mi (0, z_entry (yM mi).2.2.1 [.inr (.inr (some (0, 0)))], [], h0) = some h)
    (h01 : h0.length = 1) (h0w : y_ws q cA h0 = [(q, .inr (ci, fs))]) (hal : 1 ≤ (yM mi).2.2.1) (hpa : (yM mi).2.2.2.2.1 = 1) (hfs : ∀ (ty : Nat → FieldType), (∀ k, k < N → parseFieldDescriptor (T k).2.2.1 = some (ty k)) → ∀ j, j < N → defaultValue (ty j) = vp_V fs j)
    (hcl : Jvm.Cond.classLink "PrintHouseLaw" index C ∈ zTs) (hlk : Jvm.Cond.methodLink "PrintHouseLaw" ix (yM mi).1 ∈ zTs) (hRf : (yM mi).2.2.2.2.2.2.1 + 1 ≤ 11) (hRl : 8 + ((yM mi).2.2.1 + 11) + (yM mi).2.2.2.2.2.2.2 ≤ 388)
    (hcs : cells + 1 + (h.length - h0.length) ≤ 600002 ∧ slots + N + (y_sum h - y_sum h0) ≤ 7302232) (hS : va_S (L_A s) s.heap H locs) (hz : H.size = q) {ls : Array Slot} (hls : ls.size = 7)
    (d0 : decode code pc = .ok (.new index, 3)) (d3 : decode code (pc + 3) = .ok (.dup, 1)) (d4 : decode code (pc + 4) = .ok (.invokespecial ix, 3))
    (kk : ∀ (H1 : Heap) (locs1 : List Loc), H1.size = q + h.length → va_P D zcl (y_ws q cA h) H1 → (∀ x, x < q → H1[x]? = H[x]?) → va_S (L_A s) s.heap H1 locs1 → W p l e room_1 s m #[Value.ref b] below meth c H1 locs1 (cells + 1 + (h.length - h0.length)) (slots + N + (y_sum h - y_sum h0)) Q (F0 m (pc + 7) ls [.ref q])) :
    W p l e room_1 s m #[Value.ref b] below meth c H locs cells slots Q (F0 m pc ls []) := by
  have hts := X0.ts
  obtain ⟨C0, ⟨h1, h2, h3⟩, hK, hN, hX, hn0⟩ := X0
  obtain ⟨g1, g2, ⟨ty0, g3⟩, g4⟩ := z_clok ci C T N hc
  obtain ⟨j1, j2, j3⟩ := y_dko ci C T N hc
  obtain ⟨m1, m2, m3, m4, m5, m6, m7, m8⟩ := y_mo mi hmi
  have hAO : va_AO "PrintHouse$Job" s := va_AO.of (C0.2.2.2.2.2.1 (.arrayOver (.object "PrintHouse$Job")) (by decide +kernel))
  refine y_new (D := D) (cl := zcl) (ws := []) (q := q) C0.1 C0.2.1 hts g1 ty0 g3 C0.2.2.2.2.1 (hts _ hcl) (hts _ j2) (hts _ j3) hK (fun k q hq => by cases hq) hc (hfs ty0 g3) (show cells + 1 ≤ 600002 by omega) (show slots + N ≤ 7302232 by omega) d0 hz (fun H1 z1 hP1 o1 => ?_)
  refine lv_dup C0.1 C0.2.1 d3 rfl ?_
  have blind : FrameBlind (y_Pc q cA D zcl tys "PrintHouse$Job" [.inr (.inr (some (0, 0)))] h0) := by
    intro a U g mk hq
    obtain ⟨q0, q1, qP, qK, qA⟩ := hq
    exact ⟨q0, q1, qP, va_K.moved (u := U) (U := U.calling g mk a) (Vm.Alike.refl U.vm) qK, va_AO.moved (u := U) (U := U.calling g mk a) (Vm.Alike.refl U.vm) qA⟩
  have pre : ∀ U : State, U.heap = H1 → s.WarmedH U.vm → y_Pc q cA D zcl tys "PrintHouse$Job" [.inr (.inr (some (0, 0)))] h0 ([Value.ref q] : List Value).toArray U := fun U hU hW =>
    ⟨rfl, by rw [hU, h01]; exact z1, by rw [hU, h0w]; exact hP1, va_K.moved hW.alike hK, va_AO.moved hW.alike hAO⟩
  have hMet := y_main (l := l) (b := q) (D := D) (y_ok h1 h2 h3) hmi hh hal
  refine r_W (va_runI (R := room_1) (own := "PrintHouseLaw") (nL := 7) (cc := code) (b := q) (As := []) (rest := [.ref q]) (index := ix) (bytes := (yM mi).2.1) (maxL := (yM mi).2.2.1) (n := 0) (g := F0 m (pc + 3 + 1) ls [.ref q, .ref q]) (Ts := zTs)
    ⟨C0.1, C0.2.1, C0.2.2.2.1, C0.2.2.2.2.1, hts⟩ hMet
    ⟨⟨rfl, rfl, hRf, hRl, fun w hw a' U hW => by
        have hwT : w ∈ zTs := by
          rcases List.mem_cons.mp hw with rfl | hw
          · exact m3
          · exact hw
        exact word_at hW (good_of_word (zTs_good w hwT)) (hts w hwT), by rw [← m8]; exact List.mem_cons_self, by rw [← m8]; exact hts _ m3, hts _ m4, m2, fun sig hsig => by
          have h9 := m5 sig hsig
          omega, hts _ hlk⟩, m7, hts _ m6⟩
    ⟨blind, pre⟩ rfl rfl hls rfl (lv_room (st := [.ref q]) (Nat.le_of_ble_eq_true rfl)) d4 hcs) (fun v9 st₀ t H2 locs2 k0 hq ht hlo => ?_)
  obtain ⟨q1, q2, q3, q4⟩ := hq
  cases q1
  have hq9 : s.heap.size ≤ q := by rw [← hz]; exact hS.1
  have old : ∀ x, x < q → H2[x]? = H[x]? := fun x hx => by
    rw [← ht, q4.2 x (by rw [k0, z1]; omega) (Nat.not_le.mpr hx), k0]
    exact o1 x hx
  refine kk H2 locs2 (by rw [← ht]; exact q2) (by rw [← ht]; exact q3) old ⟨?_, fun x g1 g2 => ?_, fun x hx => ?_⟩
  · rw [← ht, q2]
    omega
  · rw [old x (Nat.lt_of_lt_of_le g1 hq9)]
    exact hS.2.1 x g1 g2
  · rcases hlo x hx with h9 | h9
    · exact hS.2.2 x h9
    · exact Nat.le_trans hq9 h9
theorem hC_fs (ty : Nat → FieldType) (h : ∀ k, k < 8 → parseFieldDescriptor (zT0 k).2.2.1 = some (ty k)) (j : Nat) (hj : j < 8) : defaultValue (ty j) = vp_V [.null, .null, .null, .null, .null, .null, .null, .null] j := by
  have h1 := (y_dko 0 "PrintHouse" zT0 8 rfl).1 j hj
  rw [h j hj] at h1
  have h2 : defaultValue (ty j) = if (zfk 0).getD j 0 = 2 then .null else .int 0 := Option.some.inj h1
  rw [h2]
  have h3 : ∀ j, j < 8 → (if (zfk 0).getD j 0 = 2 then Value.null else Value.int 0) = vp_V [.null, .null, .null, .null, .null, .null, .null, .null] j := by decide +kernel
  exact h3 j hj
def fR : List Value := [.int 0, .int 0, .int 0, .null, .int 0, .null, .null, .int 0, .int 0, .int 0, .int 0, .int 0, .int 0, .int 0, .int 0, .int 0, .int 0, .int 0, .int 0, .int 0, .int 0, .int 0, .null, .int 0, .null, .int 0, .null, .null]
theorem hR_fs (ty : Nat → FieldType) (h : ∀ k, k < 28 → parseFieldDescriptor (zT8 k).2.2.1 = some (ty k)) (j : Nat) (hj : j < 28) : defaultValue (ty j) = vp_V fR j := by
  have h1 := (y_dko 8 "PrintHouseModel" zT8 28 rfl).1 j hj
  rw [h j hj] at h1
  have h2 : defaultValue (ty j) = if (zfk 8).getD j 0 = 2 then .null else .int 0 := Option.some.inj h1
  rw [h2]
  have h3 : ∀ j, j < 28 → (if (zfk 8).getD j 0 = 2 then Value.null else Value.int 0) = vp_V fR j := by decide +kernel
  exact h3 j hj
theorem hC_n : hC.length = 60 ∧ y_sum hC ≤ 9000 ∧ hR.length = 8 ∧ y_sum hR ≤ 9000 := by decide +kernel
set_option maxRecDepth 100000 in
/-- the law, out of a relation that the calls keep -/
theorem whole_of (hl0 : l.stackTraces = false) (hL : L ≤ 2048) (C0 : lw_At p s m meth c b L xs) (Rel : Nat → z_W → z_W → Prop) (hRel0 : Rel 0 w0 v0) (hStep : ∀ j w v, 4 * j + 4 ≤ L → Rel j w v → pOK (Rel (j + 1)) w v) (hidle : ∀ j w v, 4 * j + 4 ≤ L → Rel j w v → Rel (j + 1) w v) :
    W p l e room_1 s m #[Value.ref b] below meth c s.heap [] 0 0 (lw_Z below #[Value.ref b] s) (entryFrame m ([Value.ref b] : List Value).toArray 7) := by
  obtain ⟨D, cA, hK⟩ := L_kn (s := s) (args := #[Value.ref b]) C0.2.2.2.2.2.1
  have X0 : L_X p s m meth c b L xs D cA [(cA 0, .int), (cA 1, .long), (cA 2, .object "PrintHouse$Job")] s.heap.size :=
    ⟨C0, ⟨rfl, rfl, rfl⟩, hK, fun x hx => va_Nw.of (zNs_on x hx) (C0.2.2.2.2.2.1 x (List.mem_filter.mp hx).1), L_tx C0, Nat.le_refl _⟩
  have hx := C0.1
  have hb := C0.2.1
  have hts := X0.ts
  obtain ⟨nC, sC9, nR, sR9⟩ := hC_n
  have hl := lv_entry ([.ref b]) (n := 7) (Nat.le_of_ble_eq_true rfl)
  rw [lg_entry_eq]
  generalize (lg_sl ([.ref b]) ++ List.replicate (7 - (lg_sl ([.ref b])).length) Slot.unset).toArray = ls at hl ⊢
  have hl : lv_has ls 7 [(0, .ref b)] := hl
  refine L_new (C := "PrintHouse") (T := zT0) (N := 8) (ci := 0) (mi := 7) (n := 1200) (index := 8) (ix := 32) (q := s.heap.size) (h0 := hC0) (h := hC) (fs := [.null, .null, .null, .null, .null, .null, .null, .null]) X0 rfl (by decide) hC_run rfl rfl (by decide) rfl hC_fs (zTs_in _ (by decide +kernel) rfl) (zTs_in _ (by decide +kernel) rfl) (by decide) (by decide) ⟨by rw [nC]; decide, by omega⟩ va_S.rf rfl hl.1 (by decide +kernel) (by decide +kernel) (by decide +kernel) (fun H1 locs1 z1 p1 o1 hS1 => ?_)
  rw [nC] at z1
  have p1 := c_start p1
  refine lv_astore_n hx hb (show decode code 7 = .ok (.astore_n 1, 1) by decide +kernel) rfl hl (by decide) rfl (fun ls hl => ?_)
  refine L_new (C := "PrintHouseModel") (T := zT8) (N := 28) (ci := 8) (mi := 8) (n := 200) (index := 33) (ix := 35) (q := s.heap.size + 60) (h0 := hR0) (h := hR) (fs := fR) X0 rfl (by decide) hR_run rfl rfl (by decide) rfl hR_fs (zTs_in _ (by decide +kernel) rfl) (zTs_in _ (by decide +kernel) rfl) (by decide) (by decide) ⟨by rw [nC, nR]; decide, by omega⟩ hS1 z1 hl.1 (by decide +kernel) (by decide +kernel) (by decide +kernel) (fun H2 locs2 z2 p2 o2 hS2 => ?_)
  rw [nR] at z2
  have p2 := r_start p2
  have p1 : va_P D zcl (z_ws sC zfk (adC s.heap.size) cA w0) H2 := p1.kept (fun k q hq => o2 q.1 (by have := c_at hq; omega))
  refine lv_astore_n hx hb (show decode code 15 = .ok (.astore_n 2, 1) by decide +kernel) rfl hl (by decide) rfl (fun ls hl => ?_)
  refine lv_iconst (v := 1) hx hb (show decode code 16 = .ok (.iconst 1, 1) by decide +kernel) (by decide) ?_
  refine y_newa (D := D) (cl := zcl) (ws := []) (atype := .long) (q := s.heap.size + 68) (cA := cA 1) (N' := 1) (a0 := (1, .inr (.inl (fun _ => 0)))) hx hb (hts (.arrayClass .long) y_ac.2) (hK.2 1 _ rfl).2 (fun k q hq => by cases hq) (fun cA => rfl) (by decide) (by decide) (by decide) (show _ ≤ 600002 by rw [nC, nR]; decide) (show _ ≤ 7302232 by omega) (show decode code 17 = .ok (.newarray .long, 2) by decide +kernel) z2 (fun H3 z3 p3 o3 => ?_)
  have hS3 : va_S (L_A s) s.heap H3 locs2 := ⟨by omega, fun q g1 g2 => by rw [o3 q (by omega)]; exact hS2.2.1 q g1 g2, hS2.2.2⟩
  have p1 : va_P D zcl (z_ws sC zfk (adC s.heap.size) cA w0) H3 := p1.kept (fun k q hq => o3 q.1 (by have := c_at hq; omega))
  have p2 : va_P D zcl (z_ws sR zfk (adR (s.heap.size + 60)) cA v0) H3 := p2.kept (fun k q hq => o3 q.1 (by have := r_at hq; omega))
  have hO : H3[s.heap.size + 68]? = some (h_out cA 0) := p3 0 _ rfl
  refine lv_astore_n hx hb (show decode code 19 = .ok (.astore_n 3, 1) by decide +kernel) rfl hl (by decide) rfl (fun ls hl => ?_)
  refine lv_iconst (v := 0) hx hb (show decode code 20 = .ok (.iconst 0, 1) by decide +kernel) (by decide) ?_
  refine lv_istore hx hb (show decode code 21 = .ok (.istore 4, 2) by decide +kernel) hl (by decide) rfl (fun ls hl => ?_)
  refine W.widen (k := 100 + 0) (n := 20000 + 6 * 0) (by rw [nC, nR]; decide) (by omega) ?_
  exact L_loop (b1 := s.heap.size) (b2 := s.heap.size + 60) (o := s.heap.size + 68) hl0 X0 ⟨Nat.le_refl _, Nat.le_refl _, Nat.le_refl _⟩ hL Rel hStep hidle L 0 (by omega) (by omega) ls H3 locs2 w0 v0 0 (lv_sub hl [4, 3, 2, 1, 0] rfl) ⟨p1, p2, hO⟩ w0_v (v0_v v0 rfl) hS3 hRel0
end LST
